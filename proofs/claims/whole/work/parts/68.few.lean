/-! ===== fewest ===== -/
def arL (T : Txt) (S : St) : List Nat → Nat → Prop
  | [], x => x = 0
  | s :: l, x => ∃ p, isSub p x ∧ gd T S s p = true ∧ arL T S l (x ^^^ p)
theorem sub2 {p q x : Nat} (h1 : isSub q x) (h2 : isSub p (x ^^^ q)) : isSub p x ∧ isSub q (x ^^^ p) ∧ (x ^^^ q) ^^^ p = (x ^^^ p) ^^^ q := by
  have a : isSub p x := isSub.of fun i hi => isSub.bit (sub_xsub h1) (isSub.bit h2 hi)
  refine ⟨a, isSub.of fun i hi => ?_, ?_⟩
  · rw [Nat.testBit_xor, isSub.bit h1 hi]
    cases c : p.testBit i with
    | false => rfl
    | true =>
      have := isSub.bit h2 c
      rw [Nat.testBit_xor, isSub.bit h1 hi, hi] at this
      cases this
  · rw [Nat.xor_assoc, Nat.xor_comm q p, ← Nat.xor_assoc]
theorem arL_swap {T : Txt} {S : St} {s t : Nat} {l : List Nat} {x : Nat} (h : arL T S (s :: t :: l) x) : arL T S (t :: s :: l) x := by
  obtain ⟨q, h1, h2, p, h3, h4, h5⟩ := h
  obtain ⟨a, b, c⟩ := sub2 h1 h3
  exact ⟨p, a, h4, q, b, h2, by rw [← c]; exact h5⟩
theorem arL_end {T : Txt} {S : St} {k : Nat} : ∀ {l : List Nat} {x : Nat}, arL T S (l ++ [k]) x ↔ arL T S (k :: l) x
  | [], x => Iff.rfl
  | s :: l, x => by
    have ih := fun y => arL_end (T := T) (S := S) (k := k) (l := l) (x := y)
    constructor
    · rintro ⟨p, h1, h2, h3⟩
      exact arL_swap ⟨p, h1, h2, (ih _).1 h3⟩
    · intro h
      obtain ⟨p, h1, h2, h3⟩ := arL_swap h
      exact ⟨p, h1, h2, (ih _).2 h3⟩
def bitsL (th : Nat) : List Nat := (if th.testBit 0 = true then [0] else []) ++ ((if th.testBit 1 = true then [1] else []) ++ ((if th.testBit 2 = true then [2] else []) ++ (if th.testBit 3 = true then [3] else [])))
theorem bitsL_low : ∀ th, th < 16 → th = 0 ∨ bitsL th = low th :: bitsL (th ^^^ 2 ^ low th) := by decide +kernel
theorem bitsL_high : ∀ k, k < 4 → ∀ th, th < 2 ^ k → bitsL (th + 2 ^ k) = bitsL th ++ [k] ∧ pcN (th + 2 ^ k) = pcN th + 1 ∧ th + 2 ^ k < 16 := by decide +kernel
theorem pcN_16 : ∀ th, th < 16 → pcN th ≤ 4 := by decide +kernel
def aIn (T : Txt) (S : St) (th x : Nat) : Prop := arL T S (bitsL th) x
theorem aIn_0 (T : Txt) (S : St) (x : Nat) : aIn T S 0 x ↔ x = 0 := by
  unfold aIn
  rw [show bitsL 0 = [] from rfl]; exact Iff.rfl
theorem aIn_low {T : Txt} {S : St} {th x : Nat} (h0 : 0 < th) (h : th < 16) : aIn T S th x ↔ ∃ p, isSub p x ∧ gd T S (low th) p = true ∧ aIn T S (th ^^^ 2 ^ low th) (x ^^^ p) := by
  rcases bitsL_low th h with q | q
  · omega
  · unfold aIn
    rw [q]; exact Iff.rfl
theorem aIn_high {T : Txt} {S : St} {k th x : Nat} (hk : k < 4) (h : th < 2 ^ k) : aIn T S (th + 2 ^ k) x ↔ ∃ p, isSub p x ∧ gd T S k p = true ∧ aIn T S th (x ^^^ p) := by
  unfold aIn
  rw [(bitsL_high k hk th h).1, arL_end]; exact Iff.rfl
def cst (th : Nat) : Nat := 16 * pcN th + th
abbrev NOW : Nat := 1048576
theorem cst_lt {th : Nat} (h : th < 16) : cst th < 80 := by have := pcN_16 th h; unfold cst; omega
def cSp (T : Txt) (S : St) (k x v : Nat) : Prop := MinOf NOW (fun th => th < 2 ^ k ∧ aIn T S th x) cst v
theorem cSp_0 (T : Txt) (S : St) (x : Nat) : cSp T S 0 x (if x = 0 then 0 else NOW) := by
  by_cases c : x = 0
  · rw [if_pos c]
    exact ⟨by omega, fun p hp => by have := hp.1; omega, Or.inr ⟨0, ⟨by omega, (aIn_0 T S x).2 c⟩, rfl⟩⟩
  · rw [if_neg c]
    refine ⟨Nat.le_refl _, ?_, Or.inl rfl⟩
    rintro p ⟨h1, h2⟩
    have : p = 0 := by omega
    subst this
    exact absurd ((aIn_0 T S x).1 h2) c
theorem cSp_s {T : Txt} {S : St} {k x v : Nat} {c : Nat → Nat} (hk : k < 4) (hc : ∀ y, y < 2 ^ T.nG → cSp T S k y (c y)) (hx : x < 2 ^ T.nG) (h : MinOf (c x) (prt T S k x) (fun p => c (x ^^^ p) + 16 + 2 ^ k) v) : cSp T S (k + 1) x v := by
  obtain ⟨h1, h2, h3⟩ := h
  obtain ⟨x1, x2, x3⟩ := hc x hx
  have pk : 2 ^ (k + 1) = 2 ^ k + 2 ^ k := by rw [Nat.pow_succ]; omega
  have vN : v ≤ NOW := by omega
  refine ⟨vN, ?_, ?_⟩
  · rintro th ⟨t1, t2⟩
    by_cases c1 : th < 2 ^ k
    · have := x2 th ⟨c1, t2⟩; omega
    · have e : th = (th - 2 ^ k) + 2 ^ k := by omega
      have lt : th - 2 ^ k < 2 ^ k := by omega
      rw [e] at t2
      obtain ⟨p, p1, p2, p3⟩ := (aIn_high hk lt).1 t2
      have bh := bitsL_high k hk _ lt
      have ce : cst th = cst (th - 2 ^ k) + 16 + 2 ^ k := by
        rw [e]
        unfold cst
        rw [bh.2.1, Nat.add_sub_cancel]; omega
      rw [ce]
      rcases Nat.eq_zero_or_pos p with q | q
      · subst q
        rw [Nat.xor_zero] at p3
        have := x2 _ ⟨lt, p3⟩; omega
      · have a := h2 p ⟨p1, q, p2⟩
        have b := (hc (x ^^^ p) (sub_x128 p1 hx)).2.1 _ ⟨lt, p3⟩
        have a : v ≤ c (x ^^^ p) + 16 + 2 ^ k := a
        omega
  · rcases h3 with q | ⟨p, ⟨p1, p2, p3⟩, q⟩
    · rcases x3 with e | ⟨th, ⟨t1, t2⟩, e⟩
      · exact Or.inl (by omega)
      · exact Or.inr ⟨th, ⟨by omega, t2⟩, by omega⟩
    · have q : v = c (x ^^^ p) + 16 + 2 ^ k := q
      obtain ⟨y1, y2, y3⟩ := hc (x ^^^ p) (sub_x128 p1 hx)
      rcases y3 with e | ⟨th, ⟨t1, t2⟩, e⟩
      · have : 0 < 2 ^ k := Nat.two_pow_pos k
        omega
      · have bh := bitsL_high k hk th t1
        refine Or.inr ⟨th + 2 ^ k, ⟨by omega, (aIn_high hk t1).2 ⟨p, p1, p3, t2⟩⟩, ?_⟩
        rw [q, e]
        unfold cst
        rw [bh.2.1]; omega
theorem c_leastWith {T : Txt} {S : St} {μ : Mem} (hT : okT T) (h : cT 199 T μ) {s x : Nat} {c : Nat → Nat} (hs : s < T.nS) (hx : x < 2 ^ T.nG) (hc : ∀ y, y < 2 ^ T.nG → c y ≤ NOW) (hb : ∀ y, y < 2 ^ T.nG → μ.1 (190 + s) y = nI (c y)) : ∃ v, fX3_leastWith 199 (nI s) (nI x) (nI (lfB T S s)) μ = some (nI v) ∧ MinOf (c x) (prt T S s x) (fun p => c (x ^^^ p) + 16 + 2 ^ s) v := by
  have g7 := hT.g7
  have s4 := hT.s4
  have p7 : 2 ^ T.nG ≤ 2 ^ 7 := Nat.pow_le_pow_right (by decide) g7
  have ps : 2 ^ s ≤ 2 ^ 3 := Nat.pow_le_pow_right (by decide) (by omega)
  have bs5 : inb (nI s) 5 := inbN (by omega) (by omega)
  have cs : (nI s).toNatClampNeg = s := nI_clamp (by omega)
  have bx : inb (nI x) 128 := inbN (by omega) (by omega)
  have cx : (nI x).toNatClampNeg = x := nI_clamp (by omega)
  have hN : NOW = 1048576 := rfl
  have ml : x &&& lfB T S s ≤ x := Nat.and_le_left
  have prt_iff : ∀ q, prt T S s x q ↔ (isSub q (x &&& lfB T S s) ∧ 0 < q ∧ cmB T q = true) := by
    intro q
    unfold prt gd
    rw [Bool.and_eq_true, decide_eq_true_eq]
    constructor
    · rintro ⟨a, b, c, d⟩
      exact ⟨isSub.of fun i hi => by rw [Nat.testBit_and, isSub.bit a hi, isSub.bit c hi]; rfl, b, d⟩
    · rintro ⟨a, b, d⟩
      refine ⟨isSub.of fun i hi => ?_, b, isSub.of fun i hi => ?_, d⟩
      · have := isSub.bit a hi
        rw [Nat.testBit_and, Bool.and_eq_true] at this; exact this.1
      · have := isSub.bit a hi
        rw [Nat.testBit_and, Bool.and_eq_true] at this; exact this.2
  unfold fX3_leastWith
  simp only [if_pos bs5, cs, if_pos bx, cx, nm_ap]
  rw [hb x hx, nI_and]
  obtain ⟨b, e, v, hv2, v3, v4⟩ := lsubF (L := fun n p (a : Int32) => fX3_leastWith_16 199 (nI s) (nI x) (nI (lfB T S s)) μ (fun y9 => some y9) n a p) (K := fun y => some y) (m := x &&& lfB T S s) (p := x &&& lfB T S s) (a := nI (c x)) (fun p a => ∃ v, a = nI v ∧ v ≤ NOW ∧ MinOf (c x) (fun q => prt T S s x q ∧ p < q) (fun p => c (x ^^^ p) + 16 + 2 ^ s) v) (by omega) (Nat.and_self _)
    ⟨_, rfl, hc x hx, Nat.le_refl _, fun q hq => by have := ((prt_iff q).1 hq.1).1.le; have := hq.2; omega, Or.inl rfl⟩
    (by
      rintro n p a p0 sp ⟨v, rfl, v3, v4⟩
      have pl := sp.le
      have spx : isSub p x := isSub.of fun i hi => by
        have := isSub.bit sp hi
        rw [Nat.testBit_and, Bool.and_eq_true] at this; exact this.1
      have bp : inb (nI p) 128 := inbN (by omega) (by omega)
      have cp : (nI p).toNatClampNeg = p := nI_clamp (by omega)
      have xl := sub_xlt spx p0
      have nx : ((nI p - 1) &&& nI x) &&& nI (lfB T S s) = nI ((p - 1) &&& (x &&& lfB T S s)) := by rw [show nI p - 1 = nI (p - 1) from pk_sub (b := 1) p0, nI_and, nI_and, Nat.and_assoc]
      have ix : nI x ^^^ nI p = nI (x ^^^ p) := nI_xor x p
      have bx2 : inb (nI (x ^^^ p)) 128 := inbN (by omega) (by omega)
      have cx2 : (nI (x ^^^ p)).toNatClampNeg = x ^^^ p := nI_clamp (by omega)
      have nxl : (p - 1) &&& (x &&& lfB T S s) ≤ p - 1 := Nat.and_le_left
      have cb := hc (x ^^^ p) (by omega)
      have eqv : ∀ q, prt T S s x q → ((p - 1) &&& (x &&& lfB T S s) < q ↔ (p < q ∨ q = p)) := by
        intro q hq
        constructor
        · intro l
          rcases Nat.lt_trichotomy q p with a | a | a
          · have := sub_next p q _ sp ((prt_iff q).1 hq).1 a; omega
          · exact Or.inr a
          · exact Or.inl a
        · rintro (a | a) <;> omega
      show ∃ b, fX3_leastWith_16 _ _ _ _ _ _ _ _ _ = _ ∧ _
      rw [fX3_leastWith_16, if_pos (by rw [L_0]; exact nI_lt p0 (by omega)), ix, nx]
      simp only [if_pos bs5, cs, if_pos bp, cp, if_pos bx2, cx2, nm_ap]
      cases d : cmB T p with
      | false =>
        rw [if_pos ((h.cm (by omega)).2 d)]
        refine ⟨_, rfl, v, rfl, v3, v4.same ?_⟩
        intro q
        constructor
        · rintro ⟨a, b⟩
          rcases (eqv q a).1 b with b | b
          · exact ⟨a, b⟩
          · rw [b] at a; have := ((prt_iff p).1 a).2.2; rw [d] at this; cases this
        · rintro ⟨a, b⟩
          exact ⟨a, (eqv q a).2 (Or.inl b)⟩
      | true =>
        rw [if_neg (fun q => by have := (h.cm (by omega)).1 q; rw [d] at this; cases this), hb _ (by omega), L_16, nI_add, nI_shl s (by omega), nI_add, mnI_nI (by omega) (by omega)]
        refine ⟨_, rfl, min v (c (x ^^^ p) + 16 + 2 ^ s), rfl, by omega, v4.add (p := p) ?_⟩
        intro q
        constructor
        · rintro ⟨a, b⟩
          rcases (eqv q a).1 b with b | b
          · exact Or.inl ⟨a, b⟩
          · exact Or.inr b
        · rintro (⟨a, b⟩ | b)
          · exact ⟨a, (eqv q a).2 (Or.inl b)⟩
          · subst b
            exact ⟨(prt_iff q).2 ⟨sp, p0, d⟩, by omega⟩)
    (by
      rintro n m _
      show fX3_leastWith_16 _ _ _ _ _ _ _ _ _ = _
      rw [fX3_leastWith_16, if_neg (by decide)])
  refine ⟨v, ?_, v4.same (fun q => ⟨fun a => ⟨a, a.2.1⟩, fun a => a.1⟩)⟩
  rw [hv2] at e
  exact e
def cCs (T : Txt) (S : St) (n : Nat) (μ : Mem) : Prop := ∃ c : Nat → Nat, ∀ x, x < 2 ^ T.nG → μ.1 (190 + n) x = nI (c x) ∧ cSp T S n x (c x)
theorem c_leastCost {T : Txt} {S : St} {μ : Mem} (hT : okT T) (h : cT 199 T μ) (hS : cS 9 S μ) (ok : okS T S) (hal : ∀ m, cT 199 T m → cS 9 S m → fX5_alive 9 199 m = some (nI (livB T S))) : ∃ v m, fX3_leastCost 199 9 μ = some (nI v, m) ∧ cSp T S T.nS (livB T S) v := by
  have g7 := hT.g7
  have s4 := hT.s4
  have p7 : 2 ^ T.nG ≤ 2 ^ 7 := Nat.pow_le_pow_right (by decide) g7
  have ll := livB_sub (T := T) S
  unfold fX3_leastCost
  have fin : ∀ m, Fr W1 μ m ∧ cCs T S T.nS m → ∃ r, (if inb (m.1 199 0) 5 then (fX5_alive 9 199 m).bind fun q11 => if inb q11 128 then some ((m.1 (190 + (m.1 199 0).toNatClampNeg) q11.toNatClampNeg), m) else none else none) = some r ∧ (∃ v, r = (nI v, m) ∧ cSp T S T.nS (livB T S) v) := by
    rintro m ⟨mF, c, hc⟩
    have mT : cT 199 T m := h.sm (mF.sm (by intro a j h1 h2; simp [inW]; omega))
    have mS : cS 9 S m := hS.sm (mF.sm (by intro a j h1 h2; simp [inW]; omega))
    have b5 : inb (nI T.nS) 5 := inbN (by omega) (by omega)
    have c5 : (nI T.nS).toNatClampNeg = T.nS := nI_clamp (by omega)
    have ba : inb (nI (livB T S)) 128 := inbN (by omega) (by omega)
    have ca : (nI (livB T S)).toNatClampNeg = livB T S := nI_clamp (by omega)
    rw [show m.1 199 0 = _ from mT.nS, hal m mT mS, bind_s]
    simp only [if_pos b5, c5, if_pos ba, ca]
    rw [(hc _ ll).1]
    exact ⟨_, rfl, _, rfl, (hc _ ll).2⟩
  have main : ∃ r, fX3_leastCost_2 199 9 (fun μ3 => fX3_leastCost_35 199 9 (fun μ9 => if inb (μ9.1 199 0) 5 then (fX5_alive 9 199 μ9).bind fun q11 => if inb q11 128 then some ((μ9.1 (190 + (μ9.1 199 0).toNatClampNeg) q11.toNatClampNeg), μ9) else none else none) FU 0 μ3) FU 0 μ = some r ∧ (∃ v m, r = (nI v, m) ∧ cSp T S T.nS (livB T S) v) := by
    refine ex_step (lupX (L := fun n v m => fX3_leastCost_2 199 9 (fun μ3 => fX3_leastCost_35 199 9 (fun μ9 => if inb (μ9.1 199 0) 5 then (fX5_alive 9 199 μ9).bind fun q11 => if inb q11 128 then some ((μ9.1 (190 + (μ9.1 199 0).toNatClampNeg) q11.toNatClampNeg), μ9) else none else none) FU 0 μ3) n v m) (K := fun μ3 => fX3_leastCost_35 199 9 (fun μ9 => if inb (μ9.1 199 0) 5 then (fX5_alive 9 199 μ9).bind fun q11 => if inb q11 128 then some ((μ9.1 (190 + (μ9.1 199 0).toNatClampNeg) q11.toNatClampNeg), μ9) else none else none) FU 0 μ3) 128 (fun i m => Fr W1 μ m ∧ ∀ x, x < i → m.1 190 x = nI (if x = 0 then 0 else NOW)) (by omega) ⟨Fr.rfl, fun x hx => by omega⟩ ?_ ?_) ?_
    · rintro n i m hi ⟨mF, mz⟩
      have bi : inb (nI i) 128 := inbN (by omega) (by omega)
      have ci : (nI i).toNatClampNeg = i := nI_clamp (by omega)
      show ∃ b, fX3_leastCost_2 _ _ _ _ _ _ = _ ∧ _
      rw [fX3_leastCost_2, if_pos (c_lt L_128 hi (by omega)), nI_1]
      simp only [if_pos bi, ci, nm_ap]
      by_cases z : i = 0
      · subst z
        rw [if_pos (by rfl)]
        refine ⟨_, rfl, mF.wI (by simp [inW]), ?_⟩
        intro x hx
        have : x = 0 := by omega
        subst this
        rw [wI_i, if_pos ⟨rfl, rfl⟩]; rfl
      · rw [if_neg (nI_ne0 (by omega) (by omega))]
        refine ⟨_, rfl, mF.wI (by simp [inW]), ?_⟩
        intro x hx
        rw [wI_i]
        by_cases c : x = i
        · rw [if_pos ⟨rfl, c⟩, if_neg (by omega)]; rfl
        · rw [if_neg (by omega)]; exact mz x (by omega)
    · rintro n m _
      show fX3_leastCost_2 _ _ _ _ _ _ = _
      rw [fX3_leastCost_2, if_neg (c_nlt L_128 (by omega) (by omega))]
    · rintro m ⟨mF, mz⟩
      refine ex_step (lupX (L := fun n v m => fX3_leastCost_35 199 9 (fun μ9 => if inb (μ9.1 199 0) 5 then (fX5_alive 9 199 μ9).bind fun q11 => if inb q11 128 then some ((μ9.1 (190 + (μ9.1 199 0).toNatClampNeg) q11.toNatClampNeg), μ9) else none else none) n v m) (K := fun μ9 => if inb (μ9.1 199 0) 5 then (fX5_alive 9 199 μ9).bind fun q11 => if inb q11 128 then some ((μ9.1 (190 + (μ9.1 199 0).toNatClampNeg) q11.toNatClampNeg), μ9) else none else none) T.nS (fun i m => Fr W1 μ m ∧ cCs T S i m) (by omega) ⟨mF, fun x => if x = 0 then 0 else NOW, fun x hx => ⟨mz x (by omega), cSp_0 T S x⟩⟩ ?_ ?_) ?_
      · rintro n i m2 hi ⟨kF, c, hc⟩
        have mT : cT 199 T m2 := h.sm (kF.sm (by intro a j h1 h2; simp [inW]; omega))
        have mS : cS 9 S m2 := hS.sm (kF.sm (by intro a j h1 h2; simp [inW]; omega))
        have b5 : inb (nI i + 1) 5 := by rw [nI_1]; exact inbN (by omega) (by omega)
        have c5 : (nI i + 1).toNatClampNeg = i + 1 := by rw [nI_1]; exact nI_clamp (by omega)
        show ∃ b, fX3_leastCost_35 _ _ _ _ _ _ = _ ∧ _
        rw [fX3_leastCost_35, mT.nS, if_pos (nI_lt hi (by omega)), c_livingFit mT hT mS hi, bind_s]
        obtain ⟨m3, e3, r1, r2, d, r3⟩ := lupX (L := fun n2 v m => fX3_leastCost_54 199 9 (nI i) (nI (lfB T S i)) (fun μ8 => fX3_leastCost_35 199 9 (fun μ9 => if inb (μ9.1 199 0) 5 then (fX5_alive 9 199 μ9).bind fun q11 => if inb q11 128 then some ((μ9.1 (190 + (μ9.1 199 0).toNatClampNeg) q11.toNatClampNeg), μ9) else none else none) n (nI i + 1) μ8) n2 v m) (K := fun μ8 => fX3_leastCost_35 199 9 (fun μ9 => if inb (μ9.1 199 0) 5 then (fX5_alive 9 199 μ9).bind fun q11 => if inb q11 128 then some ((μ9.1 (190 + (μ9.1 199 0).toNatClampNeg) q11.toNatClampNeg), μ9) else none else none) n (nI i + 1) μ8) (a := m2) (2 ^ T.nG) (fun j m => Fr W1 μ m ∧ (∀ x, x < 2 ^ T.nG → m.1 (190 + i) x = nI (c x)) ∧ ∃ d : Nat → Nat, ∀ x, x < j → m.1 (190 + (i + 1)) x = nI (d x) ∧ cSp T S (i + 1) x (d x)) (by omega) ⟨kF, fun x hx => (hc x hx).1, fun _ => 0, fun x hx => by omega⟩
          (by
            rintro n2 j m hj ⟨lF, lb, d, ld⟩
            have lT : cT 199 T m := h.sm (lF.sm (by intro a j h1 h2; simp [inW]; omega))
            have bj : inb (nI j) 128 := inbN (by omega) (by omega)
            have cj : (nI j).toNatClampNeg = j := nI_clamp (by omega)
            obtain ⟨v, w1, w2⟩ := c_leastWith (S := S) hT lT hi hj (fun y hy => (hc y hy).2.1) lb
            show ∃ b, fX3_leastCost_54 _ _ _ _ _ _ _ _ = _ ∧ _
            rw [fX3_leastCost_54, lT.nG, nI_shl _ (by omega), if_pos (nI_lt hj (by omega)), w1, bind_s]
            simp only [if_pos b5, c5, if_pos bj, cj, nm_ap]
            rw [nI_1 j]
            refine ⟨_, rfl, lF.wI (show inW W1 (190 + (i + 1)) j by simp [inW]; omega), ?_, fun x => if x = j then v else d x, ?_⟩
            · intro x hx
              rw [wI_i, if_neg (by omega)]; exact lb x hx
            · intro x hx
              show _ = nI (if x = j then v else d x) ∧ cSp T S (i + 1) x (if x = j then v else d x)
              rw [wI_i]
              by_cases q : x = j
              · rw [if_pos ⟨rfl, q⟩, if_pos q, q]
                exact ⟨rfl, cSp_s (by omega) (fun y hy => (hc y hy).2) hj w2⟩
              · rw [if_neg (by omega), if_neg q]; exact ld x (by omega))
          (by
            rintro n2 m ⟨lF, _⟩
            have lT : cT 199 T m := h.sm (lF.sm (by intro a j h1 h2; simp [inW]; omega))
            show fX3_leastCost_54 _ _ _ _ _ _ _ _ = _
            rw [fX3_leastCost_54, lT.nG, nI_shl _ (by omega), if_neg (nI_nlt (by omega) (by omega))])
        exact ⟨m3, (by rw [← nI_1]; exact e3), r1, d, r3⟩
      · rintro n m2 ⟨kF, _⟩
        have mT : cT 199 T m2 := h.sm (kF.sm (by intro a j h1 h2; simp [inW]; omega))
        show fX3_leastCost_35 _ _ _ _ _ _ = _
        rw [fX3_leastCost_35, mT.nS, if_neg (nI_nlt (by omega) (by omega))]
      · rintro m2 k
        obtain ⟨r, e, v, e2, e3⟩ := fin m2 k
        exact ⟨r, e, v, m2, e2, e3⟩
  obtain ⟨r, e, v, m, e2, e3⟩ := main
  exact ⟨v, m, by rw [e, e2], e3⟩
