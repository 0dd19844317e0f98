/-! ===== laws: the reference, its steps ===== -/
abbrev WTL : CellL := WX11_tellLaw
/-- what the half v may change -/
def FL (v : Nat) (m0 m : Mem) : Prop := Fr WTL m0 m ∧ (∀ x, x < 420 * v ∨ 420 * v + 420 ≤ x → m.1 271 x = m0.1 271 x ∧ m.1 272 x = m0.1 272 x) ∧ (∀ a x, 266 ≤ a → a ≤ 270 → x < 130 * v ∨ 130 * v + 130 ≤ x → m.1 a x = m0.1 a x) ∧ (∀ a x, 264 ≤ a → a ≤ 265 → x < 4 * v ∨ 4 * v + 4 ≤ x → m.1 a x = m0.1 a x)
theorem FL.rfl {v : Nat} {m : Mem} : FL v m m := ⟨Fr.rfl, fun _ _ => ⟨Eq.refl _, Eq.refl _⟩, fun _ _ _ _ _ => Eq.refl _, fun _ _ _ _ _ => Eq.refl _⟩
theorem FL.w3 {v : Nat} {m0 m : Mem} {j : Nat} {x : Int32} (h : FL v m0 m) (k : inW WTL 243 j) : FL v m0 (wI m 243 j x) := by
  obtain ⟨h1, h2, h3, h4⟩ := h
  refine ⟨h1.wI k, fun y hy => ?_, fun a y a1 a2 hy => ?_, fun a y a1 a2 hy => ?_⟩
  · rw [wI_i, if_neg (by omega), wI_i, if_neg (by omega)]; exact h2 y hy
  · rw [wI_i, if_neg (by omega)]; exact h3 a y a1 a2 hy
  · rw [wI_i, if_neg (by omega)]; exact h4 a y a1 a2 hy
theorem FL.w6 {v : Nat} {m0 m : Mem} {c j : Nat} {x : Int32} (h : FL v m0 m) (c1 : 266 ≤ c) (c2 : c ≤ 270) (j1 : 130 * v ≤ j) (j2 : j < 130 * v + 130) : FL v m0 (wI m c j x) := by
  obtain ⟨h1, h2, h3, h4⟩ := h
  refine ⟨h1.wI (by simp [WTL, WX11_tellLaw, inW]; omega), fun y hy => ?_, fun a y a1 a2 hy => ?_, fun a y a1 a2 hy => ?_⟩
  · rw [wI_i, if_neg (by omega), wI_i, if_neg (by omega)]; exact h2 y hy
  · rw [wI_i, if_neg (by omega)]; exact h3 a y a1 a2 hy
  · rw [wI_i, if_neg (by omega)]; exact h4 a y a1 a2 hy
theorem FL.w4 {v : Nat} {m0 m : Mem} {c j : Nat} {x : Int32} (h : FL v m0 m) (c1 : 264 ≤ c) (c2 : c ≤ 265) (j1 : 4 * v ≤ j) (j2 : j < 4 * v + 4) : FL v m0 (wI m c j x) := by
  obtain ⟨h1, h2, h3, h4⟩ := h
  refine ⟨h1.wI (by simp [WTL, WX11_tellLaw, inW]; omega), fun y hy => ?_, fun a y a1 a2 hy => ?_, fun a y a1 a2 hy => ?_⟩
  · rw [wI_i, if_neg (by omega), wI_i, if_neg (by omega)]; exact h2 y hy
  · rw [wI_i, if_neg (by omega)]; exact h3 a y a1 a2 hy
  · rw [wI_i, if_neg (by omega)]; exact h4 a y a1 a2 hy
theorem FL.q {v q : Nat} {m0 m m' : Mem} (h : FL v m0 m) (f : FQ (420 * v) q m m') (hq : 420 * v ≤ q) : FL v m0 m' := by
  obtain ⟨h1, h2, h3, h4⟩ := h
  refine ⟨h1.trans (f.1.mono (by intro x y; simp [WTL, WX11_tellLaw, WQ, WX11_expression, inW]; omega)), fun y hy => ?_, fun a y a1 a2 hy => ?_, fun a y a1 a2 hy => ?_⟩
  · have y1 := h2 y hy
    have y2 := f.2 y (by omega)
    exact ⟨y2.1.trans y1.1, y2.2.trans y1.2⟩
  · rw [(f.1 a y (by simp [WQ, WX11_expression, inW]; omega)).1]; exact h3 a y a1 a2 hy
  · rw [(f.1 a y (by simp [WQ, WX11_expression, inW]; omega)).1]; exact h4 a y a1 a2 hy
abbrev rLS (K V : Nat → Nat) (N : Nat → List Nat) (P : Nat → Nat) (v : Nat) (m0 m : Mem) (t b q : Nat) : Prop :=
  rTK K V N P m ∧ m.1 243 11 = nI t ∧ t ≤ 400 ∧ (∀ j, j < t → 2 ≤ K j) ∧ m.1 243 13 = 0 ∧ m.1 243 12 = 0 ∧ m.1 243 42 = nI q ∧ q ≤ 420 * v + t ∧ 420 * v ≤ q ∧ m.1 243 36 = nI b ∧ 130 * v ≤ b ∧ 4 * b ≤ 520 * v + t + 2 ∧ m.1 243 19 = nI v ∧ v ≤ 1 ∧ FL v m0 m
/-- behind a fault -/
abbrev rFS (P : Nat → Nat) (v β : Nat) (m0 m : Mem) (f t : Nat) : Prop := (f = 1 ∨ f = 2) ∧ m.1 243 13 = nI f ∧ m.1 243 14 = nI (P t) ∧ v ≤ 1 ∧ ∃ b, m.1 243 36 = nI b ∧ 130 * v ≤ b ∧ b ≤ 130 * v + β ∧ FL v m0 m
def rR {α : Type} (P : Nat → Nat) (v β : Nat) (m0 : Mem) (R : PR α) (X : Option Mem) (Q : α → Nat → Mem → Prop) : Prop :=
  (∀ a t', R = .ok (a, t') → ∃ m', X = some m' ∧ Q a t' m') ∧ (∀ f t', R = .error (f, t') → ∃ m', X = some m' ∧ rFS P v β m0 m' f t')
theorem rBind {α β : Type} {P : Nat → Nat} {v n1 n2 : Nat} {m0 : Mem} {R : PR α} {f : α → Nat → PR β} {X : Option Mem} {F : Mem → Option Mem} {Q : α → Nat → Mem → Prop} {Q' : β → Nat → Mem → Prop} (h : rR P v n1 m0 R X Q) (hF : ∀ m' g t0, rFS P v n1 m0 m' g t0 → ∃ m2, F m' = some m2 ∧ rFS P v n2 m0 m2 g t0) (k : ∀ a t' m', R = .ok (a, t') → Q a t' m' → rR P v n2 m0 (f a t') (F m') Q') : rR P v n2 m0 (pb R f) (X.bind F) Q' := by
  obtain ⟨h1, h2⟩ := h
  cases R with
  | error e =>
    obtain ⟨f0, t0⟩ := e
    obtain ⟨m', x1, x2⟩ := h2 f0 t0 rfl
    refine ⟨fun a t' e => (by cases e), fun g t' e => ?_⟩
    cases e
    rw [x1, bind_s]
    exact hF m' f0 t0 x2
  | ok z =>
    obtain ⟨a0, t0⟩ := z
    obtain ⟨m', x1, x2⟩ := h1 a0 t0 rfl
    rw [x1, bind_s]
    exact k a0 t0 m' rfl x2
theorem rFS.p {P : Nat → Nat} {v β : Nat} {m0 m : Mem} {f t : Nat} (h : rFS P v β m0 m f t) : 0 < m.1 243 13 ∧ ¬ m.1 243 13 = 0 := by rw [h.2.1]; exact f12_pos h.1
theorem rFS.w6 {P : Nat → Nat} {v β : Nat} {m0 m : Mem} {f t c : Nat} {x : Int32} (h : rFS P v β m0 m f t) (c1 : 266 ≤ c) (c2 : c ≤ 270) (hb : β < 130) : inb (m.1 243 36) 260 ∧ rFS P v β m0 (wI m c (m.1 243 36).toNatClampNeg x) f t := by
  obtain ⟨h1, h2, h3, h4, b, h5, h6, h7, h8⟩ := h
  rw [h5, nI_clamp (by omega)]
  exact ⟨inbN (by omega) (by omega), h1, by rw [wI_i, if_neg (by omega)]; exact h2, by rw [wI_i, if_neg (by omega)]; exact h3, h4, b, by rw [wI_i, if_neg (by omega)]; exact h5, h6, h7, h8.w6 c1 c2 h6 (by omega)⟩
theorem f_must {m : Mem} {x : Int32} (h : 0 < m.1 243 13 ∧ ¬ m.1 243 13 = 0) : fX11_must x m = some m := by
  unfold fX11_must
  rw [r_is_f h.2, bind_s, if_neg Bool.false_ne_true, r_fail_f h.1, bind_s]
theorem f_exp {m : Mem} (h : ¬ m.1 243 13 = 0) : fX11_expression m = some (wI m 243 46 0) := by
  unfold fX11_expression
  rw [nm_ap, show FU = 4095 + 1 from rfl, fX11_expression_12, if_neg (by decide), if_neg (by rw [wI_i, if_neg (by omega)]; exact h)]
theorem rFS.w46 {P : Nat → Nat} {v β : Nat} {m0 m : Mem} {f t : Nat} {x : Int32} (h : rFS P v β m0 m f t) : rFS P v β m0 (wI m 243 46 x) f t := by
  obtain ⟨h1, h2, h3, h4, b, h5, h6, h7, h8⟩ := h
  exact ⟨h1, by rw [wI_i, if_neg (by omega)]; exact h2, by rw [wI_i, if_neg (by omega)]; exact h3, h4, b, by rw [wI_i, if_neg (by omega)]; exact h5, h6, h7, h8.w3 (by simp [WTL, WX11_tellLaw, inW])⟩
theorem f_term {P : Nat → Nat} {v β : Nat} {m0 m : Mem} {f t : Nat} (h : rFS P v β m0 m f t) (hb : β < 129) : ∃ m', fX11_term m = some m' ∧ rFS P v (β + 1) m0 m' f t := by
  obtain ⟨b1, s1⟩ := h.w6 (c := 269) (x := m.1 243 42) (by omega) (by omega) (by omega)
  unfold fX11_term
  rw [if_pos b1, nm_ap, if_neg s1.p.2]
  generalize wI m 269 (m.1 243 36).toNatClampNeg (m.1 243 42) = m1 at s1
  obtain ⟨b2, s2⟩ := s1.w6 (c := 270) (x := m1.1 243 42) (by omega) (by omega) (by omega)
  rw [if_pos b2, nm_ap]
  generalize wI m1 270 (m1.1 243 36).toNatClampNeg (m1.1 243 42) = m2 at s2
  rw [nm_ap]
  obtain ⟨h1, h2, h3, h4, b, h5, h6, h7, h8⟩ := s2
  refine ⟨_, rfl, h1, by rw [wI_i, if_neg (by omega)]; exact h2, by rw [wI_i, if_neg (by omega)]; exact h3, h4, b + 1, by rw [wI_i, if_pos ⟨rfl, rfl⟩, h5, nI_1], by omega, by omega, h8.w3 (by simp [WTL, WX11_tellLaw, inW])⟩
/-- a token taken -/
theorem r_goR {K V : Nat → Nat} {N : Nat → List Nat} {P : Nat → Nat} {v : Nat} {m0 m : Mem} {t b q k : Nat} (hk : K t = k) (k2 : 2 ≤ k) (h : rLS K V N P v m0 m t b q) : rR P v 100 m0 (tkP K k t) (fX11_goesOn m) (fun _ t' m' => t' = t + 1 ∧ t < 400 ∧ m' = wI m 243 11 (nI (t + 1)) ∧ rLS K V N P v m0 m' (t + 1) b q) := by
  obtain ⟨h1, h2, h3, h4, h5, h6, h7, h8, h9, h10, h11, h12, h13, h14, h15⟩ := h
  have kp : ∀ z j, ¬ (z = 243 ∧ j = 11) → (wI m 243 11 (nI (t + 1))).1 z j = m.1 z j := fun z j hz => by rw [wI_i, if_neg hz]
  unfold tkP
  rw [if_pos hk]
  by_cases lt : t < 400
  · rw [if_pos lt]
    refine ⟨fun a t' e => ?_, fun f t' e => (by cases e)⟩
    cases e
    refine ⟨_, r_goesOn lt h2, rfl, lt, rfl, h1.fr (fun z j z1 z2 => ⟨kp z j (by omega), rfl⟩), by rw [wI_i, if_pos ⟨rfl, rfl⟩], by omega, ?_, by rw [kp _ _ (by omega)]; exact h5, by rw [kp _ _ (by omega)]; exact h6, by rw [kp _ _ (by omega)]; exact h7, by omega, h9, by rw [kp _ _ (by omega)]; exact h10, h11, by omega, by rw [kp _ _ (by omega)]; exact h13, h14, h15.w3 (by simp [WTL, WX11_tellLaw, inW])⟩
    intro j hj
    rcases (show j < t ∨ j = t by omega) with z | z
    · exact h4 j z
    · rw [z, hk]; exact k2
  · rw [if_neg lt]
    refine ⟨fun a t' e => (by cases e), fun f t' e => ?_⟩
    cases e
    refine ⟨_, r_goesOn_f (by omega) h2 h5 (h1 t h3 h4).2.1, Or.inr rfl, ?_, ?_, h14, b, ?_, h11, by omega, (h15.w3 (by simp [WTL, WX11_tellLaw, inW])).w3 (by simp [WTL, WX11_tellLaw, inW])⟩
    · rw [wI_i, if_neg (by omega), wI_i, if_pos ⟨rfl, rfl⟩]; rfl
    · rw [wI_i, if_pos ⟨rfl, rfl⟩]
    · rw [wI_i, if_neg (by omega), wI_i, if_neg (by omega)]; exact h10
theorem r_muR {K V : Nat → Nat} {N : Nat → List Nat} {P : Nat → Nat} {v : Nat} {m0 m : Mem} {t b q k k' : Nat} (hK : ∀ t, K t < 34) (k2 : 2 ≤ k) (hk : kR (K t) = k' ↔ K t = k) (hk' : k' < 2 ^ 31) (h : rLS K V N P v m0 m t b q) : rR P v 100 m0 (tkP K k t) (fX11_must (nI k') m) (fun _ t' m' => t' = t + 1 ∧ t < 400 ∧ m' = wI m 243 11 (nI (t + 1)) ∧ rLS K V N P v m0 m' (t + 1) b q) := by
  have g := h
  obtain ⟨h1, h2, h3, h4, h5, h6, h7, h8, h9, h10, h11, h12, h13, h14, h15⟩ := h
  have is := r_is (x := k') h3 h2 h5 (h1 t h3 h4).1 (hK t) hk'
  unfold fX11_must
  rw [is, bind_s]
  by_cases c : K t = k
  · rw [if_pos (decide_eq_true (hk.2 c))]
    have := r_goR c k2 g
    refine ⟨fun a t' e => ?_, fun f t' e => ?_⟩
    · obtain ⟨m', x1, x2⟩ := this.1 a t' e
      exact ⟨m', by rw [x1, bind_s], x2⟩
    · obtain ⟨m', x1, x2⟩ := this.2 f t' e
      exact ⟨m', by rw [x1, bind_s], x2⟩
  · rw [if_neg (by rw [decide_eq_true_eq]; exact fun z => c (hk.1 z)), r_fail (by omega) h2 h5 (h1 t h3 h4).2.1, bind_s]
    unfold tkP
    rw [if_neg c]
    refine ⟨fun a t' e => (by cases e), fun f t' e => ?_⟩
    cases e
    refine ⟨_, rfl, Or.inl rfl, ?_, ?_, h14, b, ?_, h11, by omega, (h15.w3 (by simp [WTL, WX11_tellLaw, inW])).w3 (by simp [WTL, WX11_tellLaw, inW])⟩
    · rw [wI_i, if_neg (by omega), wI_i, if_pos ⟨rfl, rfl⟩]; rfl
    · rw [wI_i, if_pos ⟨rfl, rfl⟩]
    · rw [wI_i, if_neg (by omega), wI_i, if_neg (by omega)]; exact h10
/-- a term read -/
theorem r_exR {K V : Nat → Nat} {N : Nat → List Nat} {P : Nat → Nat} {v : Nat} {m0 m : Mem} {t b q : Nat} (hK : ∀ t, K t < 34) (h : rLS K V N P v m0 m t b q) : rR P v 100 m0 (expP K V 6 t) (fX11_expression m) (fun c t' m' => rLS K V N P v m0 m' t' b (q + c.length) ∧ rCode m' q c ∧ okE c ∧ t < t' ∧ FQ (420 * v) q m m') := by
  obtain ⟨h1, h2, h3, h4, h5, h6, h7, h8, h9, h10, h11, h12, h13, h14, h15⟩ := h
  obtain ⟨o1, o2⟩ := r_expression (B := 420 * v) (V := V) (by omega) hK h1 h2 h3 h4 h5 h6 h7 h8
  have gd := gd_exp (K := K) (V := V) 6 (by omega) t h3
  refine ⟨fun c t' e => ?_, fun f t' e => ?_⟩
  · obtain ⟨m', x1, a1, a2, a3, a4, a5, a6, a7, a8, a9, a10, a11, a12, a13, a14, a15, a16⟩ := o1 c t' e
    obtain ⟨g1, g2, g3, g4, g5⟩ := gd.1 c t' e
    refine ⟨m', x1, ⟨a1, a2, a3, a4, a5, by rw [a6]; rfl, a12, by simpa using a13, by omega, ?_, h11, by omega, ?_, h14, h15.q a15 h9⟩, a14, g5 0 (by omega), g1, a15⟩
    · rw [(a15.1 243 36 (by simp [WQ, WX11_expression, inW])).1]; exact h10
    · rw [(a15.1 243 19 (by simp [WQ, WX11_expression, inW])).1]; exact h13
  · obtain ⟨m', x1, x2, x3, x4⟩ := o2 f t' e
    have ge := gd.2 f t' e
    refine ⟨m', x1, ?_, x2, x3, h14, b, ?_, h11, by omega, h15.q x4 h9⟩
    · exact ge.2.2.2
    · rw [(x4.1 243 36 (by simp [WQ, WX11_expression, inW])).1]; exact h10
