/-! ===== letting ===== -/
theorem MaxOf.uniq {z : Nat} {C : Nat → Prop} {f : Nat → Nat} {v w : Nat} (h : MaxOf z C f v) (k : MaxOf z C f w) : v = w := by
  obtain ⟨h1, h2, h3⟩ := h
  obtain ⟨k1, k2, k3⟩ := k
  have a : v ≤ w := by
    rcases h3 with q | ⟨p, c, q⟩
    · omega
    · have := k2 p c; omega
  have b : w ≤ v := by
    rcases k3 with q | ⟨p, c, q⟩
    · omega
    · have := h2 p c; omega
  omega
def mxP (C : Nat → Bool) (f : Nat → Nat) (z : Nat) : Nat → Nat
  | 0 => z
  | n + 1 => if C n = true then max (mxP C f z n) (f n) else mxP C f z n
theorem mxP_spec (C : Nat → Bool) (f : Nat → Nat) (z : Nat) : ∀ n, MaxOf z (fun p => C p = true ∧ p < n) f (mxP C f z n)
  | 0 => ⟨Nat.le_refl _, fun p hp => by omega, Or.inl rfl⟩
  | n + 1 => by
    have ih := mxP_spec C f z n
    rw [mxP]
    cases c : C n with
    | true =>
      rw [if_pos rfl]
      refine ih.add (p := n) (fun q => ⟨fun h => ?_, fun h => ?_⟩)
      · rcases (show q < n ∨ q = n by omega) with d | d
        · exact Or.inl ⟨h.1, d⟩
        · exact Or.inr d
      · rcases h with h | h
        · exact ⟨h.1, by omega⟩
        · subst h; exact ⟨c, by omega⟩
    | false =>
      rw [if_neg (by decide)]
      refine ih.same (fun q => ⟨fun h => ⟨h.1, ?_⟩, fun h => ⟨h.1, by omega⟩⟩)
      rcases (show q < n ∨ q = n by omega) with d | d
      · exact d
      · subst d; rw [c] at h; exact absurd h.1 (by decide)
def ptB (T : Txt) (S : St) (s x p : Nat) : Bool := decide (isSub p x) && (decide (0 < p) && gd T S s p)
def bt (T : Txt) (S : St) : Nat → Nat → Nat
  | 0, _ => 0
  | k + 1, x => mxP (ptB T S k x) (fun p => vS T S k p + bt T S k (x ^^^ p)) (bt T S k x) 128
def prt (T : Txt) (S : St) (s x p : Nat) : Prop := isSub p x ∧ 0 < p ∧ gd T S s p = true
theorem bt_spec {T : Txt} {S : St} {k x : Nat} (hx : x < 128) : MaxOf (bt T S k x) (prt T S k x) (fun p => vS T S k p + bt T S k (x ^^^ p)) (bt T S (k + 1) x) := by
  rw [bt]
  refine (mxP_spec _ _ _ 128).same (fun q => ?_)
  unfold ptB prt
  simp only [Bool.and_eq_true, decide_eq_true_eq]
  constructor
  · intro h; exact ⟨h, by have := h.1.le; omega⟩
  · intro h; exact h.1
theorem bt_le {T : Txt} (hT : okT T) (S : St) : ∀ k x, x < 128 → bt T S k x ≤ k * 693
  | 0, x, _ => Nat.zero_le _
  | k + 1, x, hx => by
    have ih := bt_le hT S k
    have e : (k + 1) * 693 = k * 693 + 693 := Nat.succ_mul k 693
    rw [e]
    rcases (bt_spec (T := T) (S := S) (k := k) hx).2.2 with q | ⟨p, c, q⟩
    · have h1 := ih x hx
      generalize k * 693 = z at h1 ⊢
      generalize bt T S (k + 1) x = y at q ⊢
      omega
    · have h1 := vS_le hT S k p
      have h2 := ih (x ^^^ p) (sub_x128 c.1 hx)
      have q : bt T S (k + 1) x = vS T S k p + bt T S k (x ^^^ p) := q
      generalize k * 693 = z at h2 ⊢
      generalize bt T S (k + 1) x = y at q ⊢
      omega
theorem c_mostWith {T : Txt} {S : St} {μ : Mem} (hT : okT T) {s x : Nat} (hs : s < T.nS) (hx : x < 2 ^ T.nG) (hv : ∀ p, p < 2 ^ T.nG → μ.1 (185 + s) p = vI T S s p) (hb : ∀ y, y < 2 ^ T.nG → μ.1 (190 + s) y = nI (bt T S s y)) : fX3_mostWith (nI s) (nI x) μ = some (nI (bt T S (s + 1) x)) := by
  have g7 := hT.g7
  have s4 := hT.s4
  have p7 : 2 ^ T.nG ≤ 2 ^ 7 := Nat.pow_le_pow_right (by decide) g7
  have bs5 : inb (nI s) 5 := inbN (by omega) (by omega)
  have bs4 : inb (nI s) 4 := inbN (by omega) (by omega)
  have cs : (nI s).toNatClampNeg = s := nI_clamp (by omega)
  have bx : inb (nI x) 128 := inbN (by omega) (by omega)
  have cx : (nI x).toNatClampNeg = x := nI_clamp (by omega)
  have bnd : ∀ y, y < 128 → bt T S s y ≤ 2079 := fun y hy => by
    have h1 := bt_le hT S s y hy
    have h2 : s * 693 ≤ 3 * 693 := Nat.mul_le_mul_right 693 (by omega)
    omega
  unfold fX3_mostWith
  simp only [if_pos bs5, cs, if_pos bx, cx, nm_ap]
  rw [hb x hx]
  obtain ⟨b, e, v, hv2, v3, v4⟩ := lsubF (L := fun n p (a : Int32) => fX3_mostWith_12 (nI s) (nI x) μ (fun y9 => some y9) n a p) (K := fun y => some y) (m := x) (p := x) (a := nI (bt T S s x)) (fun p a => ∃ v, a = nI v ∧ v ≤ 2772 ∧ MaxOf (bt T S s x) (fun q => prt T S s x q ∧ p < q) (fun p => vS T S s p + bt T S s (x ^^^ p)) v) (by omega) (Nat.and_self x)
    ⟨_, rfl, by have := bnd x (by omega); omega, Nat.le_refl _, fun q hq => by have := hq.1.1.le; have := hq.2; omega, Or.inl rfl⟩
    (by
      rintro n p a p0 sp ⟨v, rfl, v3, v4⟩
      have pi := sp.le
      have bp : inb (nI p) 128 := inbN (by omega) (by omega)
      have cp : (nI p).toNatClampNeg = p := nI_clamp (by omega)
      have xl := sub_xlt sp p0
      have nx : (nI p - 1) &&& nI x = nI ((p - 1) &&& x) := by rw [show nI p - 1 = nI (p - 1) from pk_sub (b := 1) p0, nI_and]
      have ix : nI x ^^^ nI p = nI (x ^^^ p) := nI_xor x p
      have bx2 : inb (nI (x ^^^ p)) 128 := inbN (by omega) (by omega)
      have cx2 : (nI (x ^^^ p)).toNatClampNeg = x ^^^ p := nI_clamp (by omega)
      have nxl : (p - 1) &&& x ≤ p - 1 := Nat.and_le_left
      have b1 := bnd (x ^^^ p) (by omega)
      have b2 := vS_le hT S s p
      have eqv : ∀ q, prt T S s x q → ((p - 1) &&& x < q ↔ (p < q ∨ q = p)) := by
        intro q hq
        constructor
        · intro l
          rcases Nat.lt_trichotomy q p with a | a | a
          · have := sub_next p q x sp hq.1 a; omega
          · exact Or.inr a
          · exact Or.inl a
        · rintro (a | a) <;> omega
      show ∃ b, fX3_mostWith_12 _ _ _ _ _ _ _ = _ ∧ _
      rw [fX3_mostWith_12, if_pos (by rw [L_0]; exact nI_lt p0 (by omega)), ix]
      simp only [if_pos bs4, if_pos bs5, cs, if_pos bp, cp, if_pos bx2, cx2, nm_ap]
      rw [hv p (by omega), nx]
      cases d : gd T S s p with
      | false =>
        rw [if_pos ((vI_m1 hT S s p).2 d)]
        refine ⟨_, rfl, v, rfl, v3, v4.same ?_⟩
        intro q
        constructor
        · rintro ⟨a, b⟩
          rcases (eqv q a).1 b with b | b
          · exact ⟨a, b⟩
          · rw [b] at a; have := a.2.2; rw [d] at this; cases this
        · rintro ⟨a, b⟩
          exact ⟨a, (eqv q a).2 (Or.inl b)⟩
      | true =>
        have vi : vI T S s p = nI (vS T S s p) := by unfold vI; rw [if_pos d]
        rw [if_neg (fun q => by have := (vI_m1 hT S s p).1 q; rw [d] at this; cases this), vi, hb _ (by omega), nI_add, mxI_nI (by omega) (by omega)]
        refine ⟨_, rfl, max v (vS T S s p + bt T S s (x ^^^ p)), rfl, by omega, v4.add (p := p) ?_⟩
        intro q
        constructor
        · rintro ⟨a, b⟩
          rcases (eqv q a).1 b with b | b
          · exact Or.inl ⟨a, b⟩
          · exact Or.inr b
        · rintro (⟨a, b⟩ | b)
          · exact ⟨a, (eqv q a).2 (Or.inl b)⟩
          · subst b
            exact ⟨⟨sp, p0, d⟩, by omega⟩)
    (by
      rintro n m _
      show fX3_mostWith_12 _ _ _ _ _ _ _ = _
      rw [fX3_mostWith_12, if_neg (by decide)])
  have u := MaxOf.uniq (v4.same (D := prt T S s x) (fun q => ⟨fun a => ⟨a, a.2.1⟩, fun a => a.1⟩)) (bt_spec (by omega))
  rw [hv2, u] at e
  exact e
/-- what the component's tables hold -/
def cVal (T : Txt) (S : St) (n : Nat) (μ : Mem) : Prop := ∀ s x, s < n → x < 2 ^ T.nG → μ.1 (185 + s) x = vI T S s x
def cBt (T : Txt) (S : St) (n : Nat) (μ : Mem) : Prop := ∀ k x, k ≤ n → x < 2 ^ T.nG → μ.1 (190 + k) x = nI (bt T S k x)
abbrev W1 : CellL := [(190, 5, none)]
theorem c_letAll {T : Txt} {S : St} {μ : Mem} (hT : okT T) (h : cT 199 T μ) (hv : cVal T S T.nS μ) : ∃ m, fX3_letAll 199 μ = some m ∧ Fr W1 μ m ∧ cBt T S T.nS m := by
  have g7 := hT.g7
  have s4 := hT.s4
  have p7 : 2 ^ T.nG ≤ 2 ^ 7 := Nat.pow_le_pow_right (by decide) g7
  unfold fX3_letAll
  refine ex_step (lupX (L := fun n v m => fX3_letAll_2 199 (fun μ2 => fX3_letAll_26 199 (fun μ7 => some μ7) FU 0 μ2) n v m) (K := fun μ2 => fX3_letAll_26 199 (fun μ7 => some μ7) FU 0 μ2) 128 (fun i m => Fr W1 μ m ∧ ∀ x, x < i → m.1 190 x = 0) (by omega) ⟨Fr.rfl, fun x hx => by omega⟩ ?_ ?_) ?_
  · rintro n i m hi ⟨mF, mz⟩
    have bi : inb (nI i) 128 := inbN (by omega) (by omega)
    have ci : (nI i).toNatClampNeg = i := nI_clamp (by omega)
    show ∃ b, fX3_letAll_2 _ _ _ _ _ = _ ∧ _
    rw [fX3_letAll_2, if_pos (c_lt L_128 hi (by omega)), nI_1]
    simp only [if_pos bi, ci, nm_ap]
    refine ⟨_, rfl, mF.wI (by simp [inW]), ?_⟩
    intro x hx
    rw [wI_i]
    by_cases c : x = i
    · rw [if_pos ⟨rfl, c⟩]
    · rw [if_neg (by omega)]; exact mz x (by omega)
  · rintro n m _
    show fX3_letAll_2 _ _ _ _ _ = _
    rw [fX3_letAll_2, if_neg (c_nlt L_128 (by omega) (by omega))]
  · rintro m ⟨mF, mz⟩
    refine ex_step (lupX (L := fun n v m => fX3_letAll_26 199 (fun μ7 => some μ7) n v m) (K := fun μ7 => some μ7) T.nS (fun i m => Fr W1 μ m ∧ cBt T S i m) (by omega) ⟨mF, ?_⟩ ?_ ?_) ?_
    · intro k x hk hx
      have : k = 0 := by omega
      subst this
      exact mz x (by omega)
    · rintro n i m2 hi ⟨kF, kb⟩
      have mT : cT 199 T m2 := h.sm (kF.sm (by intro a j h1 h2; simp [inW]; omega))
      have b5 : inb (nI i + 1) 5 := by rw [nI_1]; exact inbN (by omega) (by omega)
      have c5 : (nI i + 1).toNatClampNeg = i + 1 := by rw [nI_1]; exact nI_clamp (by omega)
      show ∃ b, fX3_letAll_26 _ _ _ _ _ = _ ∧ _
      rw [fX3_letAll_26, mT.nS, if_pos (nI_lt hi (by omega))]
      obtain ⟨m3, e3, r1, r2, r3⟩ := lupX (L := fun n2 v m => fX3_letAll_36 199 (nI i) (fun μ6 => fX3_letAll_26 199 (fun μ7 => some μ7) n (nI i + 1) μ6) n2 v m) (K := fun μ6 => fX3_letAll_26 199 (fun μ7 => some μ7) n (nI i + 1) μ6) (a := m2) (2 ^ T.nG) (fun j m => Fr W1 μ m ∧ cBt T S i m ∧ ∀ x, x < j → m.1 (190 + (i + 1)) x = nI (bt T S (i + 1) x)) (by omega) ⟨kF, kb, fun x hx => by omega⟩
        (by
          rintro n2 j m hj ⟨lF, lb, lx⟩
          have lT : cT 199 T m := h.sm (lF.sm (by intro a j h1 h2; simp [inW]; omega))
          have bj : inb (nI j) 128 := inbN (by omega) (by omega)
          have cj : (nI j).toNatClampNeg = j := nI_clamp (by omega)
          have w := c_mostWith (S := S) (μ := m) hT hi hj (fun p hp => by rw [(lF (185 + i) p (by simp [inW]; omega)).1]; exact hv i p hi hp) (fun y hy => lb i y (by omega) hy)
          show ∃ b, fX3_letAll_36 _ _ _ _ _ _ = _ ∧ _
          rw [fX3_letAll_36, lT.nG, nI_shl _ (by omega), if_pos (nI_lt hj (by omega)), w, bind_s]
          simp only [if_pos b5, c5, if_pos bj, cj, nm_ap]
          rw [nI_1 j]
          refine ⟨_, rfl, lF.wI (show inW W1 (190 + (i + 1)) j by simp [inW]; omega), ?_, ?_⟩
          · intro k x hk hx
            rw [wI_i, if_neg (by omega)]; exact lb k x hk hx
          · intro x hx
            rw [wI_i]
            by_cases c : x = j
            · rw [if_pos ⟨rfl, c⟩, c]
            · rw [if_neg (by omega)]; exact lx x (by omega))
        (by
          rintro n2 m ⟨lF, _⟩
          have lT : cT 199 T m := h.sm (lF.sm (by intro a j h1 h2; simp [inW]; omega))
          show fX3_letAll_36 _ _ _ _ _ _ = _
          rw [fX3_letAll_36, lT.nG, nI_shl _ (by omega), if_neg (nI_nlt (by omega) (by omega))])
      refine ⟨m3, (by rw [← nI_1]; exact e3), r1, ?_⟩
      intro k x hk hx
      by_cases c : k = i + 1
      · subst c; exact r3 x hx
      · exact r2 k x (by omega) hx
    · rintro n m2 ⟨kF, _⟩
      have mT : cT 199 T m2 := h.sm (kF.sm (by intro a j h1 h2; simp [inW]; omega))
      show fX3_letAll_26 _ _ _ _ _ = _
      rw [fX3_letAll_26, mT.nS, if_neg (nI_nlt (by omega) (by omega))]
    · rintro m2 k
      exact ⟨m2, rfl, k⟩
/-! the least part that does it -/
def lpB (T : Txt) (S : St) (s x p : Nat) : Bool := decide (isSub p x) && (gd T S s p && decide (vS T S s p + bt T S s (x ^^^ p) = bt T S (s + 1) x))
def lp (T : Txt) (S : St) (s x : Nat) : Nat := ffd (lpB T S s x) (x + 1) 0
theorem lp_ex {T : Txt} {S : St} {s x : Nat} (hx : x < 128) : lp T S s x < x + 1 := by
  have le := ffd_le (lpB T S s x) (x + 1) 0
  apply Classical.byContradiction
  intro c
  have all : ∀ p, p < x + 1 → lpB T S s x p = false := fun p hp => ffd_no (lpB T S s x) (x + 1) 0 p (by omega) (by unfold lp at c; omega)
  rcases (bt_spec (T := T) (S := S) (k := s) hx).2.2 with q | ⟨p, h, q⟩
  · have := all 0 (by omega)
    have z : lpB T S s x 0 = true := by
      unfold lpB
      rw [gd_zero, vS_zero, Nat.xor_zero, decide_eq_true (show isSub 0 x from Nat.zero_and _), decide_eq_true (by omega)]; rfl
    rw [z] at this; cases this
  · have := all p (by have := h.1.le; omega)
    have z : lpB T S s x p = true := by
      unfold lpB
      rw [h.2.2, decide_eq_true h.1, decide_eq_true q.symm]; rfl
    rw [z] at this; cases this
theorem lp_sub {T : Txt} {S : St} {s x : Nat} (hx : x < 128) : isSub (lp T S s x) x := by
  have h := lp_ex (T := T) (S := S) (s := s) hx
  unfold lp at h ⊢
  have := ffd_yes (lpB T S s x) (x + 1) 0 (by omega)
  generalize ffd (lpB T S s x) (x + 1) 0 = z at this
  unfold lpB at this
  rw [Bool.and_eq_true] at this
  exact of_decide_eq_true this.1
theorem c_leastPart {T : Txt} {S : St} {μ : Mem} (hT : okT T) {s x : Nat} (hs : s < T.nS) (hx : x < 2 ^ T.nG) (hv : cVal T S T.nS μ) (hb : cBt T S T.nS μ) : fX3_leastPart (nI s) (nI x) μ = some (nI (lp T S s x)) := by
  have g7 := hT.g7
  have s4 := hT.s4
  have p7 : 2 ^ T.nG ≤ 2 ^ 7 := Nat.pow_le_pow_right (by decide) g7
  have bs5 : inb (nI s) 5 := inbN (by omega) (by omega)
  have bs4 : inb (nI s) 4 := inbN (by omega) (by omega)
  have cs : (nI s).toNatClampNeg = s := nI_clamp (by omega)
  have b5 : inb (nI s + 1) 5 := by rw [nI_1]; exact inbN (by omega) (by omega)
  have c5 : (nI s + 1).toNatClampNeg = s + 1 := by rw [nI_1]; exact nI_clamp (by omega)
  have bx : inb (nI x) 128 := inbN (by omega) (by omega)
  have cx : (nI x).toNatClampNeg = x := nI_clamp (by omega)
  have bnd : ∀ k y, k ≤ 4 → y < 128 → bt T S k y ≤ 2772 := fun k y hk hy => by
    have h1 := bt_le hT S k y hy
    have h2 : k * 693 ≤ 4 * 693 := Nat.mul_le_mul_right 693 hk
    omega
  unfold fX3_leastPart
  have step : ∀ n p, p < x + 1 → fX3_leastPart_2 (nI s) (nI x) μ (fun _ => some 0) (n + 1) (nI p) = if lpB T S s x p = true then some (nI p) else fX3_leastPart_2 (nI s) (nI x) μ (fun _ => some 0) n (nI (p + 1)) := by
    intro n p hp
    have bp : inb (nI p) 128 := inbN (by omega) (by omega)
    have cp : (nI p).toNatClampNeg = p := nI_clamp (by omega)
    rw [fX3_leastPart_2, if_neg (nI_nlt (by omega) (by omega)), nI_xor, nI_1]
    simp only [if_pos bs4, if_pos bs5, cs, if_pos bp, cp, if_pos b5, c5, if_pos bx, cx, nm_ap]
    rw [hv s p hs (by omega)]
    unfold lpB
    by_cases c1 : isSub p x
    · have bx2 : inb (nI (x ^^^ p)) 128 := inbN (sub_x128 c1 (by omega)) (by omega)
      have cx2 : (nI (x ^^^ p)).toNatClampNeg = x ^^^ p := nI_clamp (by have := sub_x128 c1 hx; omega)
      have xlt := sub_x128 c1 hx
      rw [if_pos ((dif_zero (by omega)).2 c1), decide_eq_true c1]
      simp only [if_pos bx2, cx2]
      rw [hb s _ (by omega) xlt, hb (s + 1) x (by omega) hx]
      cases d : gd T S s p with
      | false => rw [if_pos ((vI_m1 hT S s p).2 d), if_neg (by simp)]
      | true =>
        have vi : vI T S s p = nI (vS T S s p) := by unfold vI; rw [if_pos d]
        have k1 := bnd s (x ^^^ p) (by omega) (by omega)
        have k2 := bnd (s + 1) x (by omega) (by omega)
        have k3 := vS_le hT S s p
        rw [if_neg (fun q => by have := (vI_m1 hT S s p).1 q; rw [d] at this; cases this), vi, nI_add]
        by_cases c2 : vS T S s p + bt T S s (x ^^^ p) = bt T S (s + 1) x
        · rw [if_pos (by rw [c2]), if_pos (by simp [c2])]
        · rw [if_neg (fun q => c2 ((nI_eq (by omega) (by omega)).1 q)), if_neg (by simp [c2])]
    · rw [if_neg (fun q => c1 ((dif_zero (by omega)).1 q)), decide_eq_false c1, if_neg (by simp)]
  rw [lfind (L := fun n i => fX3_leastPart_2 (nI s) (nI x) μ (fun _ => some 0) n i) (X := some 0) (x + 1) (lpB T S s x) (fun p => some (nI p)) (by omega)
    (by intro n i hi hp; show fX3_leastPart_2 _ _ _ _ _ _ = _; rw [step n i hi, if_pos hp])
    (by intro n i hi hp; show fX3_leastPart_2 _ _ _ _ _ _ = _; rw [step n i hi, if_neg (by rw [hp]; decide)])
    (by intro n; show fX3_leastPart_2 _ _ _ _ _ _ = _; rw [fX3_leastPart_2, if_pos (nI_lt (by omega) (by omega))])]
  have := lp_ex (T := T) (S := S) (s := s) (x := x) (by omega)
  unfold lp at this ⊢
  rw [if_pos this]
def finL (T : Txt) (S : St) (i : Nat) : Nat → Nat → Nat → Nat
  | 0, _, p => p
  | r + 1, l, _ => finL T S i r (l ^^^ lp T S (i + r) l) (lp T S (i + r) l)
def fr2 (T : Txt) (S : St) (i : Nat) : Nat → Nat → Nat
  | 0, l => l
  | r + 1, l => fr2 T S i r (l ^^^ lp T S (i + r + 1) l)
theorem fin_fr {T : Txt} {S : St} {i : Nat} : ∀ r l p, finL T S i (r + 1) l p = lp T S i (fr2 T S i r l)
  | 0, l, p => by simp [finL, fr2]
  | r + 1, l, p => by
    rw [finL, fin_fr r, fr2]
    rfl
theorem c_setLetIn {T : Txt} {S : St} {μ : Mem} (hT : okT T) (h : cT 199 T μ) (hv : cVal T S T.nS μ) (hb : cBt T S T.nS μ) {i l : Nat} (hi : i < T.nS) (hl : l < 2 ^ T.nG) : fX3_setLetIn 199 (nI l) (nI i) μ = some (nI (finL T S i (T.nS - i) l 0)) := by
  have g7 := hT.g7
  have s4 := hT.s4
  have p7 : 2 ^ T.nG ≤ 2 ^ 7 := Nat.pow_le_pow_right (by decide) g7
  have go : ∀ r n l p, i + r ≤ T.nS → l < 2 ^ T.nG → fX3_setLetIn_14 199 (nI i) μ (fun y => some y) (r + 1 + n) (nI l) (nI p) (nI (i + r) - 1) = some (nI (finL T S i r l p)) := by
    intro r
    induction r with
    | zero =>
      intro n l p _ _
      rw [show 0 + 1 + n = n + 1 by omega, fX3_setLetIn_14, if_pos]
      · rfl
      · rw [Int32.lt_iff_toInt_lt, L_1, pk_sub_toInt (by omega) (by omega), nI_toInt (by omega)]; omega
    | succ r ih =>
      intro n l p hr hl
      rw [show r + 1 + 1 + n = (r + 1 + n) + 1 by omega, fX3_setLetIn_14, show nI (i + (r + 1)) - 1 = nI (i + r) from nI_pred (i + r), if_neg (nI_nlt (by omega) (by omega)), c_leastPart hT (by omega) hl hv hb, bind_s, nI_xor]
      have e : nI (i + r) + (-1) = nI (i + r) - 1 := (Int32.sub_eq_add_neg _ _).symm
      rw [e, ih n _ _ (by omega) (sub_x128 (lp_sub (by omega)) hl)]
      rfl
  unfold fX3_setLetIn
  rw [nm_ap, h.nS]
  have := go (T.nS - i) (4096 - (T.nS - i + 1)) l 0 (by omega) hl
  rw [show T.nS - i + 1 + (4096 - (T.nS - i + 1)) = FU by unfold FU; omega, show i + (T.nS - i) = T.nS by omega] at this
  exact this
