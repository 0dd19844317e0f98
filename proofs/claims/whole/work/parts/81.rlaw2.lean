/-! ===== laws: the reference, its loop ===== -/
theorem rLS.w6 {K V : Nat → Nat} {N : Nat → List Nat} {P : Nat → Nat} {v : Nat} {m0 m : Mem} {t b q c j : Nat} {x : Int32} (h : rLS K V N P v m0 m t b q) (c1 : 266 ≤ c) (c2 : c ≤ 270) (j1 : 130 * v ≤ j) (j2 : j < 130 * v + 130) : rLS K V N P v m0 (wI m c j x) t b q := by
  obtain ⟨h1, h2, h3, h4, h5, h6, h7, h8, h9, h10, h11, h12, h13, h14, h15⟩ := h
  have kp : ∀ z i, z < 266 → (wI m c j x).1 z i = m.1 z i := fun z i hz => by rw [wI_i, if_neg (by omega)]
  exact ⟨h1.fr (fun z i z1 z2 => ⟨kp z i (by omega), rfl⟩), by rw [kp _ _ (by omega)]; exact h2, h3, h4, by rw [kp _ _ (by omega)]; exact h5, by rw [kp _ _ (by omega)]; exact h6, by rw [kp _ _ (by omega)]; exact h7, h8, h9, by rw [kp _ _ (by omega)]; exact h10, h11, h12, by rw [kp _ _ (by omega)]; exact h13, h14, h15.w6 c1 c2 j1 j2⟩
theorem rLS.w4 {K V : Nat → Nat} {N : Nat → List Nat} {P : Nat → Nat} {v : Nat} {m0 m : Mem} {t b q c j : Nat} {x : Int32} (h : rLS K V N P v m0 m t b q) (c1 : 264 ≤ c) (c2 : c ≤ 265) (j1 : 4 * v ≤ j) (j2 : j < 4 * v + 4) : rLS K V N P v m0 (wI m c j x) t b q := by
  obtain ⟨h1, h2, h3, h4, h5, h6, h7, h8, h9, h10, h11, h12, h13, h14, h15⟩ := h
  have kp : ∀ z i, z < 264 → (wI m c j x).1 z i = m.1 z i := fun z i hz => by rw [wI_i, if_neg (by omega)]
  exact ⟨h1.fr (fun z i z1 z2 => ⟨kp z i (by omega), rfl⟩), by rw [kp _ _ (by omega)]; exact h2, h3, h4, by rw [kp _ _ (by omega)]; exact h5, by rw [kp _ _ (by omega)]; exact h6, by rw [kp _ _ (by omega)]; exact h7, h8, h9, by rw [kp _ _ (by omega)]; exact h10, h11, h12, by rw [kp _ _ (by omega)]; exact h13, h14, h15.w4 c1 c2 j1 j2⟩
theorem rLS.nb {K V : Nat → Nat} {N : Nat → List Nat} {P : Nat → Nat} {v : Nat} {m0 m : Mem} {t b q : Nat} (h : rLS K V N P v m0 m t b q) (hb : 4 * b + 2 ≤ 520 * v + t) : rLS K V N P v m0 (wI m 243 36 (nI (b + 1))) t (b + 1) q := by
  obtain ⟨h1, h2, h3, h4, h5, h6, h7, h8, h9, h10, h11, h12, h13, h14, h15⟩ := h
  have kp : ∀ z i, ¬ (z = 243 ∧ i = 36) → (wI m 243 36 (nI (b + 1))).1 z i = m.1 z i := fun z i hz => by rw [wI_i, if_neg hz]
  exact ⟨h1.fr (fun z i z1 z2 => ⟨kp z i (by omega), rfl⟩), by rw [kp _ _ (by omega)]; exact h2, h3, h4, by rw [kp _ _ (by omega)]; exact h5, by rw [kp _ _ (by omega)]; exact h6, by rw [kp _ _ (by omega)]; exact h7, h8, h9, by rw [wI_i, if_pos ⟨rfl, rfl⟩], by omega, by omega, by rw [kp _ _ (by omega)]; exact h13, h14, h15.w3 (by simp [WTL, WX11_tellLaw, inW])⟩
theorem rLS.ib {K V : Nat → Nat} {N : Nat → List Nat} {P : Nat → Nat} {v : Nat} {m0 m : Mem} {t b q : Nat} (h : rLS K V N P v m0 m t b q) : inb (m.1 243 36) 260 ∧ (m.1 243 36).toNatClampNeg = b ∧ b < 130 * v + 101 := by
  obtain ⟨h1, h2, h3, h4, h5, h6, h7, h8, h9, h10, h11, h12, h13, h14, h15⟩ := h
  rw [h10, nI_clamp (by omega)]
  exact ⟨inbN (by omega) (by omega), rfl, by omega⟩
abbrev kp6 (m m' : Mem) : Prop := ∀ a x, 264 ≤ a → a ≤ 270 → m'.1 a x = m.1 a x
theorem FQ.k {B q : Nat} {m m' : Mem} (f : FQ B q m m') : kp6 m m' := fun a x a1 a2 => (f.1 a x (by simp [WQ, WX11_expression, inW]; omega)).1
/-- a value's term -/
theorem r_termR {K V : Nat → Nat} {N : Nat → List Nat} {P : Nat → Nat} {v : Nat} {m0 m : Mem} {t b q : Nat} (hK : ∀ t, K t < 34) (h : rLS K V N P v m0 m t b q) (hb : 4 * b + 2 ≤ 520 * v + t) : rR P v 101 m0 (expP K V 6 t) (fX11_term m) (fun c t' m' => rLS K V N P v m0 m' t' (b + 1) (q + c.length) ∧ rCode m' q c ∧ okE c ∧ t < t' ∧ m'.1 269 b = nI q ∧ m'.1 270 b = nI (q + c.length) ∧ (∀ x, x < q → m'.1 271 x = m.1 271 x ∧ m'.1 272 x = m.1 272 x) ∧ (∀ a x, 264 ≤ a → a ≤ 270 → ¬ ((a = 269 ∨ a = 270) ∧ x = b) → m'.1 a x = m.1 a x)) := by
  obtain ⟨i1, i2, i3⟩ := h.ib
  have hv := h.2.2.2.2.2.2.2.2.2.2.1
  unfold fX11_term
  rw [if_pos i1, nm_ap, i2, show m.1 243 42 = nI q from h.2.2.2.2.2.2.1]
  have s1 : rLS K V N P v m0 (wI m 269 b (nI q)) t b q := h.w6 (by omega) (by omega) hv (by omega)
  rw [if_pos s1.2.2.2.2.1]
  have e1 := r_exR hK s1
  refine ⟨fun c t' e => ?_, fun f t' e => ?_⟩
  · obtain ⟨m1, x1, x2, x3, x4, x5, x6⟩ := e1.1 c t' e
    obtain ⟨j1, j2, j3⟩ := x2.ib
    rw [x1, bind_s, if_pos j1, nm_ap, j2, show m1.1 243 42 = nI (q + c.length) from x2.2.2.2.2.2.2.1]
    have s2 : rLS K V N P v m0 (wI m1 270 b (nI (q + c.length))) t' b (q + c.length) := x2.w6 (by omega) (by omega) hv (by omega)
    rw [nm_ap, show (wI m1 270 b (nI (q + c.length))).1 243 36 = nI b from s2.2.2.2.2.2.2.2.2.2.1, nI_1]
    have k1 := x6.k
    refine ⟨_, rfl, s2.nb (by omega), rCode_ext x3 (fun x _ _ => ⟨by rw [wI_i, if_neg (by omega), wI_i, if_neg (by omega)], by rw [wI_i, if_neg (by omega), wI_i, if_neg (by omega)]⟩), x4, x5, ?_, ?_, ?_, ?_⟩
    · rw [wI_i, if_neg (by omega), wI_i, if_neg (by omega), k1 269 b (by omega) (by omega), wI_i, if_pos ⟨rfl, rfl⟩]
    · rw [wI_i, if_neg (by omega), wI_i, if_pos ⟨rfl, rfl⟩]
    · intro x hx
      have y := x6.2 x (Or.inl hx)
      rw [wI_i, if_neg (by omega), wI_i, if_neg (by omega)] at y
      exact ⟨by rw [wI_i, if_neg (by omega), wI_i, if_neg (by omega)]; exact y.1, by rw [wI_i, if_neg (by omega), wI_i, if_neg (by omega)]; exact y.2⟩
    · intro a x a1 a2 hx
      rw [wI_i, if_neg (by omega), wI_i, if_neg (by omega), k1 a x a1 a2, wI_i, if_neg (by omega)]
  · obtain ⟨m1, x1, x2⟩ := e1.2 f t' e
    obtain ⟨j1, s2⟩ := x2.w6 (c := 270) (x := m1.1 243 42) (by omega) (by omega) (by omega)
    rw [x1, bind_s, if_pos j1, nm_ap]
    generalize wI m1 270 (m1.1 243 36).toNatClampNeg (m1.1 243 42) = m2 at s2
    rw [nm_ap]
    obtain ⟨h1, h2, h3, h4, b', h5, h6, h7, h8⟩ := s2
    exact ⟨_, rfl, h1, by rw [wI_i, if_neg (by omega)]; exact h2, by rw [wI_i, if_neg (by omega)]; exact h3, h4, b' + 1, by rw [wI_i, if_pos ⟨rfl, rfl⟩, h5, nI_1], by omega, by omega, h8.w3 (by simp [WTL, WX11_tellLaw, inW])⟩
/- the tails of one branch -/
def t9 (KB : Int32 → Mem → Option Mem) (v3 : Int32) (q14 : Mem) : Option Mem := (fX11_must 31 q14).bind fun q15 => KB (v3 + 1) q15
def t8 (KB : Int32 → Mem → Option Mem) (v3 : Int32) (q13 : Mem) : Option Mem := (fX11_term q13).bind fun q14 => t9 KB v3 q14
def t7 (KB : Int32 → Mem → Option Mem) (v3 : Int32) (q12 : Mem) : Option Mem := (fX11_must 30 q12).bind fun q13 => t8 KB v3 q13
def t6 (KB : Int32 → Mem → Option Mem) (v3 : Int32) (q7 : Mem) : Option Mem :=
  if inb (q7.1 243 36) 260 then nm (wI q7 268 (q7.1 243 36).toNatClampNeg (q7.1 243 42)) fun μ8 => if (μ8.1 243 13) = 0 then (fX11_expression μ8).bind fun q12 => t7 KB v3 q12 else t7 KB v3 μ8
  else none
def t5 (KB : Int32 → Mem → Option Mem) (v3 : Int32) (q6 : Mem) : Option Mem := (fX11_must 13 q6).bind fun q7 => t6 KB v3 q7
def t3 (KB : Int32 → Mem → Option Mem) (v3 : Int32) (q3 : Mem) : Option Mem :=
  if inb (q3.1 243 36) 260 then nm (wI q3 266 (q3.1 243 36).toNatClampNeg (1 &&& 1)) fun μ4 =>
    if inb (μ4.1 243 36) 260 then nm (wI μ4 267 (μ4.1 243 36).toNatClampNeg (μ4.1 243 42)) fun μ5 => (fX11_expression μ5).bind fun q6 => t5 KB v3 q6
    else none
  else none
theorem j38_t (KB : Int32 → Mem → Option Mem) (KK : Mem → Option Mem) (v1 v2 v3 : Int32) (m : Mem) : fX11_tellLaw_j38_12 KB KK v1 v2 v3 m = if 0 < m.1 243 13 then some m else (fX11_goesOn m).bind fun q3 => t3 KB v3 q3 := rfl
section
variable {P : Nat → Nat} {v : Nat} {m0 : Mem} {KB : Int32 → Mem → Option Mem} {v3 : Int32}
theorem f_t9 (hKB : ∀ z m g t0, rFS P v 101 m0 m g t0 → ∃ m2, KB z m = some m2 ∧ rFS P v 102 m0 m2 g t0) : ∀ m g t0, rFS P v 101 m0 m g t0 → ∃ m2, t9 KB v3 m = some m2 ∧ rFS P v 102 m0 m2 g t0 := by
  intro m g t0 h
  unfold t9
  rw [f_must h.p, bind_s]
  exact hKB _ _ _ _ h
theorem f_t8 (hKB : ∀ z m g t0, rFS P v 101 m0 m g t0 → ∃ m2, KB z m = some m2 ∧ rFS P v 102 m0 m2 g t0) : ∀ m g t0, rFS P v 100 m0 m g t0 → ∃ m2, t8 KB v3 m = some m2 ∧ rFS P v 102 m0 m2 g t0 := by
  intro m g t0 h
  obtain ⟨m1, x1, x2⟩ := f_term h (by omega)
  unfold t8
  rw [x1, bind_s]
  exact f_t9 hKB _ _ _ x2
theorem f_t7 (hKB : ∀ z m g t0, rFS P v 101 m0 m g t0 → ∃ m2, KB z m = some m2 ∧ rFS P v 102 m0 m2 g t0) : ∀ m g t0, rFS P v 100 m0 m g t0 → ∃ m2, t7 KB v3 m = some m2 ∧ rFS P v 102 m0 m2 g t0 := by
  intro m g t0 h
  unfold t7
  rw [f_must h.p, bind_s]
  exact f_t8 hKB _ _ _ h
theorem f_t6 (hKB : ∀ z m g t0, rFS P v 101 m0 m g t0 → ∃ m2, KB z m = some m2 ∧ rFS P v 102 m0 m2 g t0) : ∀ m g t0, rFS P v 100 m0 m g t0 → ∃ m2, t6 KB v3 m = some m2 ∧ rFS P v 102 m0 m2 g t0 := by
  intro m g t0 h
  obtain ⟨b1, s1⟩ := h.w6 (c := 268) (x := m.1 243 42) (by omega) (by omega) (by omega)
  unfold t6
  rw [if_pos b1, nm_ap, if_neg s1.p.2]
  exact f_t7 hKB _ _ _ s1
theorem f_t5 (hKB : ∀ z m g t0, rFS P v 101 m0 m g t0 → ∃ m2, KB z m = some m2 ∧ rFS P v 102 m0 m2 g t0) : ∀ m g t0, rFS P v 100 m0 m g t0 → ∃ m2, t5 KB v3 m = some m2 ∧ rFS P v 102 m0 m2 g t0 := by
  intro m g t0 h
  unfold t5
  rw [f_must h.p, bind_s]
  exact f_t6 hKB _ _ _ h
theorem f_t3 (hKB : ∀ z m g t0, rFS P v 101 m0 m g t0 → ∃ m2, KB z m = some m2 ∧ rFS P v 102 m0 m2 g t0) : ∀ m g t0, rFS P v 100 m0 m g t0 → ∃ m2, t3 KB v3 m = some m2 ∧ rFS P v 102 m0 m2 g t0 := by
  intro m g t0 h
  obtain ⟨b1, s1⟩ := h.w6 (c := 266) (x := 1 &&& 1) (by omega) (by omega) (by omega)
  unfold t3
  rw [if_pos b1, nm_ap]
  generalize wI m 266 (m.1 243 36).toNatClampNeg (1 &&& 1) = m1 at s1
  obtain ⟨b2, s2⟩ := s1.w6 (c := 267) (x := m1.1 243 42) (by omega) (by omega) (by omega)
  rw [if_pos b2, nm_ap, f_exp s2.p.2, bind_s]
  exact f_t5 hKB _ _ _ s2.w46
theorem f_j129 {v1 v2 : Int32} : ∀ m g t0, rFS P v 101 m0 m g t0 → ∃ m2, fX11_tellLaw_j129 v1 v2 m = some m2 ∧ rFS P v 102 m0 m2 g t0 := by
  intro m g t0 h
  obtain ⟨b1, s1⟩ := h.w6 (c := 266) (x := 0 &&& 1) (by omega) (by omega) (by omega)
  unfold fX11_tellLaw_j129
  rw [if_pos b1, nm_ap]
  obtain ⟨m1, x1, x2⟩ := f_term s1 (by omega)
  rw [x1, bind_s, f_must x2.p, bind_s, if_pos x2.p.1]
  exact ⟨_, rfl, x2⟩
theorem f_12 {v1 v2 : Int32} : ∀ n z m g t0, rFS P v 101 m0 m g t0 → ∃ m2, fX11_tellLaw_12 v1 v2 (fun μ17 => fX11_tellLaw_j129 v1 v2 μ17) (n + 1) z m = some m2 ∧ rFS P v 102 m0 m2 g t0 := by
  intro n z m g t0 h
  rw [fX11_tellLaw_12, if_neg h.p.2]
  exact f_j129 _ _ _ h
end
