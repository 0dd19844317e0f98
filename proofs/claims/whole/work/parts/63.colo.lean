/-! ===== colours ===== -/
def cmg (T : Txt) (m g : Nat) : Bool := m.testBit g && !decide (m &&& clB T g = 0)
def cmB (T : Txt) (m : Nat) : Bool := !decide (ffd (cmg T m) T.nG 0 < T.nG)
theorem cmB_iff {T : Txt} {m : Nat} : cmB T m = true ↔ calm T m := by
  unfold cmB calm
  have le := ffd_le (cmg T m) T.nG 0
  constructor
  · intro h g hg hm
    have h2 : ¬ ffd (cmg T m) T.nG 0 < T.nG := by simpa using h
    have := ffd_no (cmg T m) T.nG 0 g (by omega) (by omega)
    unfold cmg at this
    rw [hm] at this
    simpa using this
  · intro h
    have : ¬ ffd (cmg T m) T.nG 0 < T.nG := by
      intro c
      have h2 := ffd_yes (cmg T m) T.nG 0 (by omega)
      generalize ffd (cmg T m) T.nG 0 = z at c h2
      unfold cmg at h2
      rw [Bool.and_eq_true] at h2
      have := h _ c h2.1
      simp [this] at h2
    simp [this]
theorem cT.cm {t : Nat} {T : Txt} {μ : Mem} (h : cT t T μ) {m : Nat} (hm : m < 2 ^ T.nG) : (μ.1 (t + 12) m = 0) ↔ cmB T m = false := by
  rcases h.pc m hm with ⟨a, b⟩ | ⟨a, b⟩
  · rw [a, cmB_iff.2 b]; decide
  · have : cmB T m = false := by
      cases q : cmB T m with
      | false => rfl
      | true => exact absurd (cmB_iff.1 q) b
    rw [a, this]; decide
theorem r_isCalm {v : Nat} {T : Txt} {μ : Mem} (h : rX v T μ) {m : Nat} (hm : m < 128) : fX11_isCalm (nI m) μ = some (cmB T m) := by
  have g7 := h.2.2.1.g7
  have v1 := h.2.1
  unfold fX11_isCalm
  have step : ∀ n i, i < T.nG → fX11_isCalm_2 (nI m) μ (fun _ => some true) (n + 1) (nI i) = if cmg T m i = true then some false else fX11_isCalm_2 (nI m) μ (fun _ => some true) n (nI (i + 1)) := by
    intro n i hi
    have lt : m &&& clB T i < 128 := and_lt hm
    rw [fX11_isCalm_2, h.1, if_pos (inbN (by omega) (by omega)), nI_clamp (by omega), h.2.2.2.nG, if_pos (nI_lt hi (by omega)), nI_bit (by omega) (by omega), r_clashBits h hi, bind_s, nI_and, nI_1]
    unfold cmg
    cases c : m.testBit i with
    | true =>
      rw [if_pos (bit_one.2 c)]
      by_cases d : m &&& clB T i = 0
      · rw [if_pos (by rw [d]; rfl), if_neg (by simp [d])]
      · rw [if_neg (nI_ne0 (by omega) (by omega)), if_pos (by simp [d])]
    | false => rw [if_neg (fun q => by rw [bit_one.1 q] at c; cases c), if_neg (by simp)]
  rw [lfind (L := fun n i => fX11_isCalm_2 (nI m) μ (fun _ => some true) n i) (X := some true) T.nG (cmg T m) (fun _ => some false) (by omega)
    (by intro n i hi hp; show fX11_isCalm_2 _ _ _ _ _ = _; rw [step n i hi, if_pos hp])
    (by intro n i hi hp; show fX11_isCalm_2 _ _ _ _ _ = _; rw [step n i hi, if_neg (by rw [hp]; decide)])
    (by intro n; show fX11_isCalm_2 _ _ _ _ _ = _; rw [fX11_isCalm_2, h.1, if_pos (inbN (by omega) (by omega)), nI_clamp (by omega), h.2.2.2.nG, if_neg (nI_nlt (by omega) (by omega))])]
  unfold cmB
  by_cases c : ffd (cmg T m) T.nG 0 < T.nG
  · rw [if_pos c]; simp [c]
  · rw [if_neg c]; simp [c]
def cand (T : Txt) (x p : Nat) : Prop := isSub p x ∧ 0 < p ∧ cmB T p = true
def colS (T : Txt) (c : Nat → Nat) (N : Nat) : Prop := c 0 = 0 ∧ ∀ x, 0 < x → x < N → MinOf 7 (cand T x) (fun p => c (x ^^^ p) + 1) (c x)
theorem colS.uniq {T : Txt} {c d : Nat → Nat} {N M : Nat} (h : colS T c N) (k : colS T d M) : ∀ x, x < N → x < M → c x = d x := by
  intro x
  induction x using Nat.strongRecOn with
  | _ x ih =>
    intro h1 h2
    rcases Nat.eq_zero_or_pos x with q | q
    · subst q; rw [h.1, k.1]
    · refine MinOf.uniq (h.2 x q h1) (k.2 x q h2) ?_
      intro p hp
      have := sub_xlt hp.1 hp.2.1
      rw [ih _ this (by omega) (by omega)]
theorem MinOf.cg {z : Nat} {C : Nat → Prop} {f g : Nat → Nat} {v : Nat} (h : MinOf z C f v) (e : ∀ p, C p → f p = g p) : MinOf z C g v := by
  obtain ⟨h1, h2, h3⟩ := h
  refine ⟨h1, fun p hp => by rw [← e p hp]; exact h2 p hp, ?_⟩
  rcases h3 with q | ⟨p, c, q⟩
  · exact Or.inl q
  · exact Or.inr ⟨p, c, by rw [← e p c]; exact q⟩
theorem colS.ext {T : Txt} {c : Nat → Nat} {i v : Nat} (hi : 0 < i) (h : colS T c i) (k : MinOf 7 (cand T i) (fun p => c (i ^^^ p) + 1) v) : colS T (fun x => if x = i then v else c x) (i + 1) := by
  refine ⟨?_, ?_⟩
  · show (if 0 = i then v else c 0) = 0
    rw [if_neg (by omega)]; exact h.1
  · intro x x0 xi
    have e : ∀ p, cand T x p → c (x ^^^ p) + 1 = (if x ^^^ p = i then v else c (x ^^^ p)) + 1 := by
      intro p hp
      have := sub_xlt hp.1 hp.2.1
      rw [if_neg (by omega)]
    by_cases c1 : x = i
    · subst c1
      show MinOf 7 (cand T x) (fun p => (if x ^^^ p = x then v else c (x ^^^ p)) + 1) (if x = x then v else c x)
      rw [if_pos rfl]
      exact k.cg e
    · show MinOf 7 (cand T x) (fun p => (if x ^^^ p = i then v else c (x ^^^ p)) + 1) (if x = i then v else c x)
      rw [if_neg c1]
      exact (h.2 x x0 (by omega)).cg e
theorem sub_x128 {p m N : Nat} (h : isSub p m) (hm : m < N) : m ^^^ p < N := Nat.lt_of_le_of_lt (sub_xsub h).le hm
/-- the inner loop of the component: parts of i, from the largest down -/
theorem c_col30 {T : Txt} {i : Nat} {w : Int32} {c : Nat → Nat} {K : Mem → Option (Int32 × Mem)} {μ : Mem} (hT : okT T) (hi : i < 2 ^ T.nG) (h0 : 0 < i) (h : cT 199 T μ) (ht : ∀ x, x < i → μ.1 190 x = nI (c x)) (hc : ∀ x, x < i → c x ≤ 7) (h7 : μ.1 190 i = 7) :
    ∃ m, fX3_fewestColours_30 199 w (nI i) K FU (nI i) μ = K m ∧ cT 199 T m ∧ (∀ x, x < i → m.1 190 x = nI (c x)) ∧ ∃ v, m.1 190 i = nI v ∧ v ≤ 7 ∧ MinOf 7 (cand T i) (fun p => c (i ^^^ p) + 1) v := by
  have g7 := hT.g7
  have p7 : 2 ^ T.nG ≤ 2 ^ 7 := Nat.pow_le_pow_right (by decide) g7
  have bi : inb (nI i) 128 := inbN (by omega) (by omega)
  have ci : (nI i).toNatClampNeg = i := nI_clamp (by omega)
  obtain ⟨m, e, r1, r2, v, r3, r4, r5⟩ := lsubF (L := fun n p m => fX3_fewestColours_30 199 w (nI i) K n p m) (K := K) (m := i) (p := i) (a := μ) (fun p m => cT 199 T m ∧ (∀ x, x < i → m.1 190 x = nI (c x)) ∧ ∃ v, m.1 190 i = nI v ∧ v ≤ 7 ∧ MinOf 7 (fun q => cand T i q ∧ p < q) (fun p => c (i ^^^ p) + 1) v) (by omega) (Nat.and_self i)
    ⟨h, ht, 7, h7, Nat.le_refl _, Nat.le_refl _, fun q hq => by have := hq.1.1.le; have := hq.2; omega, Or.inl rfl⟩
    (by
      rintro n p m p0 sp ⟨mT, mt, v, mv, v7, mm⟩
      have pi := sp.le
      have bp : inb (nI p) 128 := inbN (by omega) (by omega)
      have cp : (nI p).toNatClampNeg = p := nI_clamp (by omega)
      have xl := sub_xlt sp p0
      have nx : (nI p - 1) &&& nI i = nI ((p - 1) &&& i) := by rw [show nI p - 1 = nI (p - 1) from pk_sub (b := 1) p0, nI_and]
      have ix : nI i ^^^ nI p = nI (i ^^^ p) := nI_xor i p
      have bx : inb (nI (i ^^^ p)) 128 := inbN (by omega) (by omega)
      have cx : (nI (i ^^^ p)).toNatClampNeg = i ^^^ p := nI_clamp (by omega)
      have nxl : (p - 1) &&& i ≤ p - 1 := Nat.and_le_left
      have eqv : ∀ q, cand T i q → ((p - 1) &&& i < q ↔ (p < q ∨ q = p)) := by
        intro q hq
        constructor
        · intro l
          rcases Nat.lt_trichotomy q p with a | a | a
          · have := sub_next p q i sp hq.1 a; omega
          · exact Or.inr a
          · exact Or.inl a
        · rintro (a | a) <;> omega
      have c190 := hc (i ^^^ p) xl
      show ∃ b, fX3_fewestColours_30 _ _ _ _ _ _ _ = _ ∧ _
      rw [fX3_fewestColours_30, if_pos (by rw [L_0]; exact nI_lt p0 (by omega)), ix]
      simp only [if_pos bp, cp, if_pos bi, ci, if_pos bx, cx, nm_ap]
      rw [nx]
      cases d : cmB T p with
      | false =>
        rw [if_pos ((mT.cm (by omega)).2 d)]
        refine ⟨m, rfl, mT, mt, v, mv, v7, mm.same ?_⟩
        intro q
        constructor
        · rintro ⟨a, b⟩
          rcases (eqv q a).1 b with b | b
          · exact ⟨a, b⟩
          · rw [b] at a; have := a.2.2; rw [d] at this; cases this
        · rintro ⟨a, b⟩
          exact ⟨a, (eqv q a).2 (Or.inl b)⟩
      | true =>
        rw [if_neg (fun q => by have := (mT.cm (by omega)).1 q; rw [d] at this; cases this), mt _ xl, mv, nI_1, mnI_nI (by omega) (by omega)]
        refine ⟨_, rfl, mT.sm (Sm.wI (by omega)), ?_, min v (c (i ^^^ p) + 1), ?_, by omega, mm.add (p := p) ?_⟩
        · intro x hx
          rw [wI_i, if_neg (by omega)]; exact mt x hx
        · rw [wI_i, if_pos ⟨rfl, rfl⟩]
        · intro q
          constructor
          · rintro ⟨a, b⟩
            rcases (eqv q a).1 b with b | b
            · exact Or.inl ⟨a, b⟩
            · exact Or.inr b
          · rintro (⟨a, b⟩ | b)
            · exact ⟨a, (eqv q a).2 (Or.inl b)⟩
            · subst b
              exact ⟨⟨sp, p0, d⟩, by omega⟩)
    (by
      rintro n m _
      show fX3_fewestColours_30 _ _ _ _ _ _ _ = _
      rw [fX3_fewestColours_30, if_neg (by decide)])
  exact ⟨m, e, r1, r2, v, r3, r4, r5.same (fun q => ⟨fun a => ⟨a, a.2.1⟩, fun a => a.1⟩)⟩
theorem livB_sub {T : Txt} (S : St) : livB T S < 2 ^ T.nG := bs_lt _ _
theorem c_colours {A : Abs} {μ : Mem} (hA : okA A) (hc : CInv A μ) : ∃ c m, colS A.T c (livB A.T A.S + 1) ∧ fX10_colours μ = some (nI (c (livB A.T A.S)), m) := by
  have g7 := hA.T.g7
  have p7 : 2 ^ A.T.nG ≤ 2 ^ 7 := Nat.pow_le_pow_right (by decide) g7
  have ll := livB_sub (T := A.T) A.S
  have ba : inb (nI (livB A.T A.S)) 128 := inbN (by omega) (by omega)
  have ca : (nI (livB A.T A.S)).toNatClampNeg = livB A.T A.S := nI_clamp (by omega)
  unfold fX10_colours fX3_fewestColours
  rw [c_alive hA hc.T hc.S, bind_s, nm_ap]
  obtain ⟨m, e, mT, c, c1, c2, c3⟩ := lupX1 (L := fun n v m => fX3_fewestColours_14 199 (nI (livB A.T A.S)) (fun μ7 => if inb (nI (livB A.T A.S)) 128 then some ((μ7.1 190 (nI (livB A.T A.S)).toNatClampNeg), μ7) else none) n v m) (K := fun μ7 => if inb (nI (livB A.T A.S)) 128 then some ((μ7.1 190 (nI (livB A.T A.S)).toNatClampNeg), μ7) else none) (a := wI μ 190 0 0) (livB A.T A.S + 1) (fun i m => cT 199 A.T m ∧ ∃ c, colS A.T c i ∧ (∀ x, x < i → m.1 190 x = nI (c x)) ∧ ∀ x, x < i → c x ≤ 7) (by omega) (by omega)
    ⟨hc.T.sm (Sm.wI (by omega)), fun _ => 0, ⟨rfl, fun x x0 x1 => by omega⟩, fun x hx => by rw [wI_i, if_pos ⟨rfl, by omega⟩]; rfl, fun x hx => Nat.zero_le _⟩
    (by
      rintro n i m h1 hi ⟨mT, c, c1, c2, c3⟩
      have bi : inb (nI i) 128 := inbN (by omega) (by omega)
      have ci : (nI i).toNatClampNeg = i := nI_clamp (by omega)
      show ∃ b, fX3_fewestColours_14 _ _ _ (n + 1) (nI i) m = _ ∧ _
      rw [fX3_fewestColours_14, if_neg (nI_nlt (by omega) (by omega))]
      simp only [if_pos bi, ci, nm_ap]
      obtain ⟨m2, e2, k1, k2, v, k3, k4, k5⟩ := c_col30 (K := fun μ6 => fX3_fewestColours_14 199 (nI (livB A.T A.S)) (fun μ7 => if inb (nI (livB A.T A.S)) 128 then some ((μ7.1 190 (nI (livB A.T A.S)).toNatClampNeg), μ7) else none) n (nI i + 1) μ6) (w := nI (livB A.T A.S)) (μ := wI m 190 i 7) hA.T (i := i) (by omega) (by omega) (mT.sm (Sm.wI (by omega))) (fun x hx => by rw [wI_i, if_neg (by omega)]; exact c2 x hx) c3 (by rw [wI_i, if_pos ⟨rfl, rfl⟩])
      rw [nI_1] at e2
      refine ⟨m2, (by rw [nI_1]; exact e2), k1, (fun x => if x = i then v else c x), c1.ext (by omega) k5, ?_, ?_⟩
      · intro x hx
        show _ = nI (if x = i then v else c x)
        by_cases q : x = i
        · subst q; rw [if_pos rfl]; exact k3
        · rw [if_neg q]; exact k2 x (by omega)
      · intro x hx
        show (if x = i then v else c x) ≤ 7
        by_cases q : x = i
        · rw [if_pos q]; exact k4
        · rw [if_neg q]; exact c3 x (by omega))
    (by
      rintro n m _
      show fX3_fewestColours_14 _ _ _ _ _ _ = _
      rw [fX3_fewestColours_14, if_pos (nI_lt (by omega) (by omega))])
  refine ⟨c, m, c1, ?_⟩
  have e3 : (if inb (nI (livB A.T A.S)) 128 then some ((m.1 190 (nI (livB A.T A.S)).toNatClampNeg), m) else none) = some (nI (c (livB A.T A.S)), m) := by
    rw [if_pos ba, ca, c2 _ (by omega)]
  refine Eq.trans (congrArg (fun o => Option.bind o fun q2 => some (q2.1, q2.2)) (Eq.trans e e3)) ?_
  rfl
theorem r_col38 {v : Nat} {T : Txt} {S : St} {i : Nat} {c : Nat → Nat} {K : Mem → Option (Int32 × Mem)} {μ : Mem} (h : rX v T μ) (hS : rS 277 0 S μ) (hi : i < 2 ^ T.nG) (h0 : 0 < i) (ht : ∀ x, x < i → μ.1 284 x = nI (c x)) (hc : ∀ x, x < i → c x ≤ 7) (h7 : μ.1 284 i = 7) :
    ∃ m, fX11_colours_38 (nI i) K FU 1 μ = K m ∧ rX v T m ∧ rS 277 0 S m ∧ (∀ x, x < i → m.1 284 x = nI (c x)) ∧ ∃ v, m.1 284 i = nI v ∧ v ≤ 7 ∧ MinOf 7 (cand T i) (fun p => c (i ^^^ p) + 1) v := by
  have g7 := h.2.2.1.g7
  have p7 : 2 ^ T.nG ≤ 2 ^ 7 := Nat.pow_le_pow_right (by decide) g7
  have bi : inb (nI i) 128 := inbN (by omega) (by omega)
  have ci : (nI i).toNatClampNeg = i := nI_clamp (by omega)
  obtain ⟨m, e, r0, r1, r2, w, r3, r4, r5⟩ := lupX1 (L := fun n p m => fX11_colours_38 (nI i) K n p m) (K := K) (a := μ) (i + 1) (fun p m => rX v T m ∧ rS 277 0 S m ∧ (∀ x, x < i → m.1 284 x = nI (c x)) ∧ ∃ w, m.1 284 i = nI w ∧ w ≤ 7 ∧ MinOf 7 (fun q => cand T i q ∧ q < p) (fun p => c (i ^^^ p) + 1) w) (by omega) (by omega)
    ⟨h, hS, ht, 7, h7, Nat.le_refl _, Nat.le_refl _, fun q hq => by have := hq.1.2.1; have := hq.2; omega, Or.inl rfl⟩
    (by
      rintro n p m p1 pN ⟨mx, ms, mt, w, mw, w7, mm⟩
      show ∃ b, fX11_colours_38 _ _ _ _ _ = _ ∧ _
      rw [fX11_colours_38, if_neg (nI_nlt (by omega) (by omega)), r_isPart _ _ (by omega), bind_s, nI_dif, nI_1]
      by_cases sp : isSub p i
      · rw [if_pos (decide_eq_true sp), sp.xor]
        have xl := sub_xlt sp p1
        have bx : inb (nI (i ^^^ p)) 128 := inbN (by omega) (by omega)
        have cx : (nI (i ^^^ p)).toNatClampNeg = i ^^^ p := nI_clamp (by omega)
        have c284 := hc (i ^^^ p) xl
        simp only [if_pos bi, ci, if_pos bx, cx, nm_ap]
        rw [mt _ xl, mw, nI_1, r_isCalm mx (by omega), bind_s]
        have eqv : ∀ q, cand T i q → (q < p + 1 ↔ (q < p ∨ q = p)) := fun q _ => by omega
        by_cases l : c (i ^^^ p) + 1 < w
        · rw [if_pos (nI_lt l (by omega))]
          cases d : cmB T p with
          | true =>
            rw [if_pos rfl]
            have rx2 : rX v T (wI m 284 i (nI (c (i ^^^ p) + 1))) := mx.sm (by rw [wI_i, if_neg (by omega)]) (Sm.wI (by omega))
            refine ⟨_, rfl, rx2, ms.sm (Sm.wI (by omega)), ?_, min w (c (i ^^^ p) + 1), ?_, by omega, mm.add (p := p) ?_⟩
            · intro x hx
              rw [wI_i, if_neg (by omega)]; exact mt x hx
            · rw [wI_i, if_pos ⟨rfl, rfl⟩, Nat.min_eq_right (by omega)]
            · intro q
              constructor
              · rintro ⟨a, b⟩
                rcases (eqv q a).1 b with b | b
                · exact Or.inl ⟨a, b⟩
                · exact Or.inr b
              · rintro (⟨a, b⟩ | b)
                · exact ⟨a, by omega⟩
                · subst b; exact ⟨⟨sp, p1, d⟩, by omega⟩
          | false =>
            rw [if_neg (by decide)]
            refine ⟨m, rfl, mx, ms, mt, w, mw, w7, mm.same ?_⟩
            intro q
            constructor
            · rintro ⟨a, b⟩
              rcases (eqv q a).1 b with b | b
              · exact ⟨a, b⟩
              · rw [b] at a; have := a.2.2; rw [d] at this; cases this
            · rintro ⟨a, b⟩; exact ⟨a, by omega⟩
        · rw [if_neg (nI_nlt (by omega) (by omega))]
          refine ⟨m, rfl, mx, ms, mt, w, mw, w7, ?_⟩
          cases d : cmB T p with
          | true =>
            have := mm.add (p := p) (D := fun q => cand T i q ∧ q < p + 1) (by
              intro q
              constructor
              · rintro ⟨a, b⟩
                rcases (eqv q a).1 b with b | b
                · exact Or.inl ⟨a, b⟩
                · exact Or.inr b
              · rintro (⟨a, b⟩ | b)
                · exact ⟨a, by omega⟩
                · subst b; exact ⟨⟨sp, p1, d⟩, by omega⟩)
            rwa [Nat.min_eq_left (by omega)] at this
          | false =>
            refine mm.same ?_
            intro q
            constructor
            · rintro ⟨a, b⟩
              rcases (eqv q a).1 b with b | b
              · exact ⟨a, b⟩
              · rw [b] at a; have := a.2.2; rw [d] at this; cases this
            · rintro ⟨a, b⟩; exact ⟨a, by omega⟩
      · rw [if_neg (by rw [decide_eq_false sp]; decide)]
        refine ⟨m, rfl, mx, ms, mt, w, mw, w7, mm.same ?_⟩
        intro q
        constructor
        · rintro ⟨a, b⟩
          refine ⟨a, ?_⟩
          rcases (show q < p ∨ q = p by omega) with b | b
          · exact b
          · rw [b] at a; exact absurd a.1 sp
        · rintro ⟨a, b⟩; exact ⟨a, by omega⟩)
    (by
      rintro n m _
      show fX11_colours_38 _ _ _ _ _ = _
      rw [fX11_colours_38, if_pos (nI_lt (by omega) (by omega))])
  exact ⟨m, e, r0, r1, r2, w, r3, r4, r5.same (fun q => ⟨fun a => ⟨a, by have := a.1.le; omega⟩, fun a => a.1⟩)⟩
theorem r_colours {A : Abs} {μ : Mem} (hA : okA A) (hr : RInv A μ) : ∃ c m, colS A.T c (2 ^ A.T.nG) ∧ fX11_colours μ = some (nI (c (livB A.T A.S)), m) := by
  have g7 := hA.T.g7
  have v1 := hA.lv
  have p7 : 2 ^ A.T.nG ≤ 2 ^ 7 := Nat.pow_le_pow_right (by decide) g7
  have p1 : 1 ≤ 2 ^ A.T.nG := Nat.two_pow_pos _
  have ll := livB_sub (T := A.T) A.S
  have ba : inb (nI (livB A.T A.S)) 128 := inbN (by omega) (by omega)
  have ca : (nI (livB A.T A.S)).toNatClampNeg = livB A.T A.S := nI_clamp (by omega)
  obtain ⟨m0, e0, s0, r0, _⟩ := r_copies hA hr
  have x0 := r0.rX hA
  unfold fX11_colours
  rw [e0, bind_s, nm_ap]
  have x1 : rX A.lv A.T (wI m0 284 0 0) := x0.sm (by rw [wI_i, if_neg (by omega)]) (Sm.wI (by omega))
  obtain ⟨m, e, mx, ms, c, c1, c2, c3⟩ := lupX1 (L := fun n v m => fX11_colours_13 (fun μ8 => (fX11_livingBits μ8).bind fun q9 => if inb q9 128 then some ((μ8.1 284 q9.toNatClampNeg), μ8) else none) n v m) (K := fun μ8 => (fX11_livingBits μ8).bind fun q9 => if inb q9 128 then some ((μ8.1 284 q9.toNatClampNeg), μ8) else none) (a := wI m0 284 0 0) (2 ^ A.T.nG) (fun i m => rX A.lv A.T m ∧ rS 277 0 A.S m ∧ ∃ c, colS A.T c i ∧ (∀ x, x < i → m.1 284 x = nI (c x)) ∧ ∀ x, x < i → c x ≤ 7) (by omega) (by omega)
    ⟨x1, s0.sm (Sm.wI (by omega)), fun _ => 0, ⟨rfl, fun x x0 x1 => by omega⟩, fun x hx => by rw [wI_i, if_pos ⟨rfl, by omega⟩]; rfl, fun x hx => Nat.zero_le _⟩
    (by
      rintro n i m h1 hi ⟨mx, ms, c, c1, c2, c3⟩
      have bi : inb (nI i) 128 := inbN (by omega) (by omega)
      have ci : (nI i).toNatClampNeg = i := nI_clamp (by omega)
      show ∃ b, fX11_colours_13 _ (n + 1) (nI i) m = _ ∧ _
      rw [fX11_colours_13, mx.1, if_pos (show inb (nI A.lv) 2 from inbN (by omega) (by omega)), nI_clamp (n := A.lv) (by omega), mx.2.2.2.nG, nI_shl _ (by omega), if_pos (nI_lt hi (by omega))]
      simp only [if_pos bi, ci, nm_ap]
      have x2 : rX A.lv A.T (wI m 284 i 7) := mx.sm (by rw [wI_i, if_neg (by omega)]) (Sm.wI (by omega))
      obtain ⟨m2, e2, k0, k1, k2, v, k3, k4, k5⟩ := r_col38 (K := fun μ7 => fX11_colours_13 (fun μ8 => (fX11_livingBits μ8).bind fun q9 => if inb q9 128 then some ((μ8.1 284 q9.toNatClampNeg), μ8) else none) n (nI i + 1) μ7) x2 (ms.sm (Sm.wI (by omega))) (i := i) hi (by omega) (fun x hx => by rw [wI_i, if_neg (by omega)]; exact c2 x hx) c3 (by rw [wI_i, if_pos ⟨rfl, rfl⟩])
      rw [nI_1] at e2
      refine ⟨m2, (by rw [nI_1]; exact e2), k0, k1, (fun x => if x = i then v else c x), c1.ext (by omega) k5, ?_, ?_⟩
      · intro x hx
        show _ = nI (if x = i then v else c x)
        by_cases q : x = i
        · subst q; rw [if_pos rfl]; exact k3
        · rw [if_neg q]; exact k2 x (by omega)
      · intro x hx
        show (if x = i then v else c x) ≤ 7
        by_cases q : x = i
        · rw [if_pos q]; exact k4
        · rw [if_neg q]; exact c3 x (by omega))
    (by
      rintro n m ⟨mx, ms, _⟩
      show fX11_colours_13 _ _ _ _ = _
      rw [fX11_colours_13, mx.1, if_pos (show inb (nI A.lv) 2 from inbN (by omega) (by omega)), nI_clamp (n := A.lv) (by omega), mx.2.2.2.nG, nI_shl _ (by omega), if_neg (nI_nlt (by omega) (by omega))])
  refine ⟨c, m, c1, ?_⟩
  rw [r_livingBits mx ms, bind_s, if_pos ba, ca, c2 _ ll] at e
  exact e
theorem sp_colours : st_colours Inv := by
  intro μ ⟨A, hA, hc, hr⟩
  obtain ⟨c, m, c1, e⟩ := c_colours hA hc
  have ll := livB_sub (T := A.T) A.S
  refine qmm hA hc hr (F := fX10_colours) (G := fX11_colours) (nI (c (livB A.T A.S))) ⟨m, e⟩ (fun μ' hr' => ?_) (frX10_colours μ) frX11_colours (by decide) (by decide) (by decide) (by decide)
  obtain ⟨d, m2, d1, e2⟩ := r_colours hA hr'
  refine ⟨m2, ?_⟩
  rw [e2, c1.uniq d1 _ (by omega) ll]
