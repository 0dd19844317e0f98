/-! ===== laws: the reference, whole ===== -/
abbrev lowR (v k b q : Nat) (m m' : Mem) : Prop := (∀ x, x < q → m'.1 271 x = m.1 271 x ∧ m'.1 272 x = m.1 272 x) ∧ (∀ a x, 266 ≤ a → a ≤ 270 → x < b → m'.1 a x = m.1 a x) ∧ (∀ a x, 264 ≤ a → a ≤ 265 → x ≠ 4 * v + k → m'.1 a x = m.1 a x)
abbrev rLQ (K V : Nat → Nat) (N : Nat → List Nat) (P : Nat → Nat) (v k b0 : Nat) (m0 m : Mem) (b q : Nat) : LawT → Nat → Mem → Prop := fun l t' m' => ∃ e, rLS K V N P v m0 m' t' e (q + tln l) ∧ 4 * e ≤ 520 * v + t' ∧ b < e ∧ rLaw m' l.2 b q l.1 e ∧ okL l ∧ m'.1 264 (4 * v + k) = nI b0 ∧ m'.1 265 (4 * v + k) = nI e ∧ lowR v k b q m m'
theorem w3_k {m : Mem} {x : Int32} (j : Nat) : ∀ a y, a ≠ 243 → (wI m 243 j x).1 a y = m.1 a y := fun a y h => by rw [wI_i, if_neg (by omega)]
theorem r_j129 {K V : Nat → Nat} {N : Nat → List Nat} {P : Nat → Nat} {v k b0 : Nat} {m0 m : Mem} {t b q : Nat} (hK : ∀ t, K t < 34) (hk : k < 4) (h : rLS K V N P v m0 m t b q) (hb : 4 * b + 2 ≤ 520 * v + t) : rR P v 102 m0 (lasP K V t) (fX11_tellLaw_j129 (nI k) (nI b0) m) (rLQ K V N P v k b0 m0 m b q) := by
  obtain ⟨i1, i2, i3⟩ := h.ib
  have hv := h.2.2.2.2.2.2.2.2.2.2.1
  have v1 := h.2.2.2.2.2.2.2.2.2.2.2.2.2.1
  unfold fX11_tellLaw_j129 lasP
  rw [if_pos i1, nm_ap, i2, show (0 &&& 1 : Int32) = 0 from rfl]
  have s1 : rLS K V N P v m0 (wI m 266 b 0) t b q := h.w6 (by omega) (by omega) hv (by omega)
  refine rBind (r_termR hK s1 hb) ?_ ?_
  · intro m' g t0 f
    rw [f_must f.p, bind_s, if_pos f.p.1]
    exact ⟨_, rfl, f.1, f.2.1, f.2.2.1, f.2.2.2.1, (by obtain ⟨b', y1, y2, y3, y4⟩ := f.2.2.2.2; exact ⟨b', y1, y2, by omega, y4⟩)⟩
  rintro c t1 m1 - ⟨s2, x2, x3, x4, x5, x6, x7, x8⟩
  refine rBind (r_muR (k := 4) (k' := 4) hK (by omega) (kR_b _ (hK _)).2.2.1 (by omega) s2) ?_ ?_
  · intro m' g t0 f
    rw [if_pos f.p.1]
    exact ⟨_, rfl, f.1, f.2.1, f.2.2.1, f.2.2.2.1, (by obtain ⟨b', y1, y2, y3, y4⟩ := f.2.2.2.2; exact ⟨b', y1, y2, by omega, y4⟩)⟩
  rintro u t2 m2 - ⟨rfl, lt, rfl, s3⟩
  have k2 := w3_k (m := m1) (x := nI (t1 + 1)) 11
  generalize wI m1 243 11 (nI (t1 + 1)) = m2 at s3 k2
  have c19 : ∀ mm : Mem, mm.1 243 19 = nI v → 4 * mm.1 243 19 + nI k = nI (4 * v + k) := by
    intro mm e
    rw [e]
    have all : ∀ a, a < 2 → ∀ b, b < 4 → 4 * nI a + nI b = nI (4 * a + b) := by decide
    exact all v (by omega) k hk
  refine ⟨fun l t' e => ?_, fun f t' e => (by cases e)⟩
  cases e
  rw [if_neg (by rw [s3.2.2.2.2.1]; decide), c19 _ s3.2.2.2.2.2.2.2.2.2.2.2.2.1, if_pos (inbN (by omega) (by omega)), nI_clamp (by omega), nm_ap]
  have s4 : rLS K V N P v m0 (wI m2 264 (4 * v + k) (nI b0)) (t1 + 1) (b + 1) (q + c.length) := s3.w4 (by omega) (by omega) (by omega) (by omega)
  rw [c19 _ s4.2.2.2.2.2.2.2.2.2.2.2.2.1, if_pos (inbN (by omega) (by omega)), nI_clamp (by omega), nm_ap, show (wI m2 264 (4 * v + k) (nI b0)).1 243 36 = nI (b + 1) from s4.2.2.2.2.2.2.2.2.2.1]
  have s5 : rLS K V N P v m0 (wI (wI m2 264 (4 * v + k) (nI b0)) 265 (4 * v + k) (nI (b + 1))) (t1 + 1) (b + 1) (q + c.length) := s4.w4 (by omega) (by omega) (by omega) (by omega)
  have k5 : ∀ a x, 266 ≤ a → a ≤ 272 → (wI (wI m2 264 (4 * v + k) (nI b0)) 265 (4 * v + k) (nI (b + 1))).1 a x = m1.1 a x := by
    intro a x a1 a2
    rw [wI_i, if_neg (by omega), wI_i, if_neg (by omega), k2 a x (by omega)]
  refine ⟨_, rfl, b + 1, ?_, by omega, by omega, ?_, ⟨fun z hz => (by simp at hz), x3⟩, ?_, ?_, ?_, ?_, ?_⟩
  · rw [show tln (([], c) : LawT) = c.length by simp [tln]]
    exact s5
  · refine ⟨?_, ?_, ?_, ?_, rfl, by omega, ?_⟩
    · rw [k5 _ _ (by omega) (by omega), x8 266 b (by omega) (by omega) (by omega), wI_i, if_pos ⟨rfl, rfl⟩]
    · rw [k5 _ _ (by omega) (by omega)]; exact x5
    · rw [k5 _ _ (by omega) (by omega)]; exact x6
    · exact rCode_ext x2 (fun x _ _ => ⟨k5 _ _ (by omega) (by omega), k5 _ _ (by omega) (by omega)⟩)
    · have := s3.2.2.2.2.2.2.2.1
      show q + c.length ≤ 840
      omega
  · rw [wI_i, if_neg (by omega), wI_i, if_pos ⟨rfl, rfl⟩]
  · rw [wI_i, if_pos ⟨rfl, rfl⟩]
  · intro x hx
    have y := x7 x hx
    rw [wI_i, if_neg (by omega), wI_i, if_neg (by omega)] at y
    exact ⟨(k5 _ _ (by omega) (by omega)).trans y.1, (k5 _ _ (by omega) (by omega)).trans y.2⟩
  · intro a x a1 a2 hx
    rw [k5 a x (by omega) (by omega), x8 a x (by omega) (by omega) (by omega), wI_i, if_neg (by omega)]
  · intro a x a1 a2 hx
    rw [wI_i, if_neg (by omega), wI_i, if_neg (by omega), k2 a x (by omega), x8 a x (by omega) (by omega) (by omega), wI_i, if_neg (by omega)]
theorem law_asc {K V : Nat → Nat} {t r : Nat} : (pb (brP K V t) fun b t1 => pb (lawL K V r t1) fun l t2 => (.ok ((b :: l.1, l.2), t2) : PR LawT)) = pb (tkP K 22 t) fun _ t1 => pb (expP K V 6 t1) fun c1 t2 => pb (tkP K 10 t2) fun _ t3 => pb (expP K V 6 t3) fun c2 t4 => pb (tkP K 23 t4) fun _ t5 => pb (expP K V 6 t5) fun c3 t6 => pb (tkP K 24 t6) fun _ t7 => pb (lawL K V r t7) fun l t8 => .ok (((c1, c2, c3) :: l.1, l.2), t8) := by
  unfold brP
  simp only [pb_assoc]
  rfl
theorem r_law12 {K V : Nat → Nat} {N : Nat → List Nat} {P : Nat → Nat} {v k b0 : Nat} {m0 : Mem} (hK : ∀ t, K t < 34) (hk : k < 4) : ∀ r i n m t b q, i + r = 4 → r + 1 < n → rLS K V N P v m0 m t b q → 4 * b + 2 ≤ 520 * v + t → rR P v 102 m0 (lawL K V r t) (fX11_tellLaw_12 (nI k) (nI b0) (fun μ17 => fX11_tellLaw_j129 (nI k) (nI b0) μ17) n (nI i) m) (rLQ K V N P v k b0 m0 m b q)
  | r, i, 0, m, t, b, q, _, h, _, _ => by omega
  | 0, i, n + 1, m, t, b, q, hi, _, h, hb => by
    have i4 : i = 4 := by omega
    subst i4
    have is := r_is (x := 29) h.2.2.1 h.2.1 h.2.2.2.2.1 (h.1 t h.2.2.1 h.2.2.2.1).1 (hK t) (by omega)
    rw [lawL, fX11_tellLaw_12, if_pos h.2.2.2.2.1, show (29 : Int32) = nI 29 from rfl, is, bind_s]
    by_cases c : K t = 22
    · rw [if_pos c, if_pos (decide_eq_true ((kR_c _ (hK t)).1.2 c)), if_pos (show nI 4 = 4 from rfl), r_fail (by have := h.2.2.1; omega) h.2.1 h.2.2.2.2.1 (h.1 t h.2.2.1 h.2.2.2.1).2.1, bind_s, j38_t, if_pos (by rw [wI_i, if_neg (by omega), wI_i, if_pos ⟨rfl, rfl⟩]; decide)]
      refine ⟨fun l t' e => (by cases e), fun f t' e => ?_⟩
      cases e
      obtain ⟨h1, h2, h3, h4, h5, h6, h7, h8, h9, h10, h11, h12, h13, h14, h15⟩ := h
      refine ⟨_, rfl, Or.inr rfl, ?_, ?_, h14, b, ?_, h11, by omega, (h15.w3 (by simp [WTL, WX11_tellLaw, inW])).w3 (by simp [WTL, WX11_tellLaw, inW])⟩
      · rw [wI_i, if_neg (by omega), wI_i, if_pos ⟨rfl, rfl⟩]; rfl
      · rw [wI_i, if_pos ⟨rfl, rfl⟩]
      · rw [wI_i, if_neg (by omega), wI_i, if_neg (by omega)]; exact h10
    · rw [if_neg c, if_neg (show ¬ decide (kR (K t) = 29) = true by rw [decide_eq_true_eq]; exact fun z => c ((kR_c _ (hK t)).1.1 z))]
      exact r_j129 hK hk h hb
  | r + 1, i, n + 1, m, t, b, q, hi, hn, h, hb => by
    have is := r_is (x := 29) h.2.2.1 h.2.1 h.2.2.2.2.1 (h.1 t h.2.2.1 h.2.2.2.1).1 (hK t) (by omega)
    rw [lawL, fX11_tellLaw_12, if_pos h.2.2.2.2.1, show (29 : Int32) = nI 29 from rfl, is, bind_s]
    by_cases c : K t = 22
    · rw [if_pos c, if_pos (decide_eq_true ((kR_c _ (hK t)).1.2 c)), if_neg (show ¬ nI i = 4 from fun z => by have := (nI_eq (b := 4) (by omega) (by omega)).1 z; omega), j38_t, if_neg (by rw [h.2.2.2.2.1]; decide), law_asc]
      have hKB : ∀ z mm g t0, rFS P v 101 m0 mm g t0 → ∃ m2, fX11_tellLaw_12 (nI k) (nI b0) (fun μ17 => fX11_tellLaw_j129 (nI k) (nI b0) μ17) n z mm = some m2 ∧ rFS P v 102 m0 m2 g t0 := by
        obtain ⟨n1, rfl⟩ : ∃ n1, n = n1 + 1 := ⟨n - 1, by omega⟩
        exact f_12 n1
      have v1 := h.2.2.2.2.2.2.2.2.2.2.2.2.2.1
      refine rBind (r_goR c (by omega) h) (f_t3 hKB) ?_
      rintro u1 t1 m1 - ⟨rfl, lt1, rfl, s1⟩
      have k1 := w3_k (m := m) (x := nI (t + 1)) 11
      generalize wI m 243 11 (nI (t + 1)) = m1 at s1 k1
      obtain ⟨i1, i2, i3⟩ := s1.ib
      have hv := s1.2.2.2.2.2.2.2.2.2.2.1
      have s2 : rLS K V N P v m0 (wI m1 266 b 1) (t + 1) b q := s1.w6 (by omega) (by omega) hv (by omega)
      obtain ⟨i4, i5, i6⟩ := s2.ib
      have s3 : rLS K V N P v m0 (wI (wI m1 266 b 1) 267 b (nI q)) (t + 1) b q := s2.w6 (by omega) (by omega) hv (by omega)
      unfold t3
      rw [if_pos i1, nm_ap, i2, show (1 &&& 1 : Int32) = 1 from rfl, if_pos i4, nm_ap, i5, show (wI m1 266 b 1).1 243 42 = nI q from s2.2.2.2.2.2.2.1]
      refine rBind (r_exR hK s3) (f_t5 hKB) ?_
      rintro c1 t2 m3 - ⟨s4, x1, x2, x3, x4⟩
      have k3 := x4.k
      unfold t5
      refine rBind (r_muR (k := 10) (k' := 13) hK (by omega) (kR_b _ (hK _)).2.1 (by omega) s4) (f_t6 hKB) ?_
      rintro u3 t3' m4 - ⟨rfl, lt3, rfl, s5⟩
      have k4 := w3_k (m := m3) (x := nI (t2 + 1)) 11
      generalize wI m3 243 11 (nI (t2 + 1)) = m4 at s5 k4
      obtain ⟨i7, i8, i9⟩ := s5.ib
      have s6 : rLS K V N P v m0 (wI m4 268 b (nI (q + c1.length))) (t2 + 1) b (q + c1.length) := s5.w6 (by omega) (by omega) hv (by omega)
      unfold t6
      rw [if_pos i7, nm_ap, i8, show m4.1 243 42 = nI (q + c1.length) from s5.2.2.2.2.2.2.1, if_pos s6.2.2.2.2.1]
      refine rBind (r_exR hK s6) (f_t7 hKB) ?_
      rintro c2 t4 m5 - ⟨s7, y1, y2, y3, y4⟩
      have k5 := y4.k
      unfold t7
      refine rBind (r_muR (k := 23) (k' := 30) hK (by omega) (kR_c _ (hK _)).2.1 (by omega) s7) (f_t8 hKB) ?_
      rintro u5 t5' m6 - ⟨rfl, lt5, rfl, s8⟩
      have k6 := w3_k (m := m5) (x := nI (t4 + 1)) 11
      generalize wI m5 243 11 (nI (t4 + 1)) = m6 at s8 k6
      unfold t8
      refine rBind (r_termR hK s8 (by omega)) (f_t9 hKB) ?_
      rintro c3 t6' m7 - ⟨s9, z1, z2, z3, z4, z5, z6, z7⟩
      unfold t9
      refine rBind (r_muR (k := 24) (k' := 31) hK (by omega) (kR_c _ (hK _)).2.2.1 (by omega) s9) (fun mm g t0 f => hKB _ _ _ _ (by obtain ⟨b', w1, w2, w3, w4⟩ := f.2.2.2.2; exact ⟨f.1, f.2.1, f.2.2.1, f.2.2.2.1, b', w1, w2, by omega, w4⟩)) ?_
      rintro u7 t7' m8 - ⟨rfl, lt7, rfl, s10⟩
      have k8 := w3_k (m := m7) (x := nI (t6' + 1)) 11
      generalize wI m7 243 11 (nI (t6' + 1)) = m8 at s10 k8
      rw [nI_1]
      have ih := r_law12 (b0 := b0) hK hk r (i + 1) n m8 (t6' + 1) (b + 1) (q + c1.length + c2.length + c3.length) (by omega) (by omega) s10 (by omega)
      refine ⟨fun l t' e => ?_, fun g t' e => ?_⟩
      · obtain ⟨l0, t0, e1, e2⟩ := pb_ok e
        cases e2
        obtain ⟨m', w0, e9, w1, w2, w3, w4, w5, w6, w7, w8, w9, w10⟩ := ih.1 l0 t' e1
        -- the branch's own cells
        have c8 : ∀ a x, 266 ≤ a → a ≤ 270 → x < b + 1 → m'.1 a x = m7.1 a x := fun a x a1 a2 hx => by rw [w9 a x a1 a2 hx, k8 a x (by omega)]
        have c5 : ∀ a x, 264 ≤ a → a ≤ 270 → ¬ ((a = 269 ∨ a = 270) ∧ x = b) → m7.1 a x = (wI m4 268 b (nI (q + c1.length))).1 a x := fun a x a1 a2 hx => by rw [z7 a x a1 a2 hx, k6 a x (by omega), k5 a x a1 a2]
        have c3' : ∀ a x, 264 ≤ a → a ≤ 270 → m4.1 a x = (wI (wI m1 266 b 1) 267 b (nI q)).1 a x := fun a x a1 a2 => by rw [k4 a x (by omega), k3 a x a1 a2]
        -- the codes
        have d7 : ∀ x, x < q + c1.length + c2.length + c3.length → m'.1 271 x = m7.1 271 x ∧ m'.1 272 x = m7.1 272 x := fun x hx => ⟨by rw [(w8 x hx).1, k8 _ _ (by omega)], by rw [(w8 x hx).2, k8 _ _ (by omega)]⟩
        have d5 : ∀ x, x < q + c1.length + c2.length → m'.1 271 x = m5.1 271 x ∧ m'.1 272 x = m5.1 272 x := fun x hx => ⟨by rw [(d7 x (by omega)).1, (z6 x hx).1, k6 _ _ (by omega)], by rw [(d7 x (by omega)).2, (z6 x hx).2, k6 _ _ (by omega)]⟩
        have d3 : ∀ x, x < q + c1.length → m'.1 271 x = m3.1 271 x ∧ m'.1 272 x = m3.1 272 x := by
          intro x hx
          have y := y4.2 x (Or.inl hx)
          rw [wI_i, if_neg (by omega), wI_i, if_neg (by omega), k4 _ _ (by omega), k4 _ _ (by omega)] at y
          exact ⟨(d5 x (by omega)).1.trans y.1, (d5 x (by omega)).2.trans y.2⟩
        have d0 : ∀ x, x < q → m'.1 271 x = m.1 271 x ∧ m'.1 272 x = m.1 272 x := by
          intro x hx
          have y := x4.2 x (Or.inl hx)
          rw [wI_i, if_neg (by omega), wI_i, if_neg (by omega), wI_i, if_neg (by omega), wI_i, if_neg (by omega), k1 _ _ (by omega), k1 _ _ (by omega)] at y
          exact ⟨(d3 x (by omega)).1.trans y.1, (d3 x (by omega)).2.trans y.2⟩
        have tl : tln ((c1, c2, c3) :: l0.1, l0.2) = c1.length + c2.length + c3.length + tln l0 := by
          simp only [tln, List.map_cons, List.sum_cons]; omega
        refine ⟨m', w0, e9, ?_, w2, by omega, ⟨?_, ?_, ?_, ?_, ?_, ?_, ?_, ?_, w4⟩, ⟨fun z hz => ?_, w5.2⟩, w6, w7, d0, fun a x a1 a2 hx => ?_, fun a x a1 a2 hx => ?_⟩
        · rw [tl, show q + (c1.length + c2.length + c3.length + tln l0) = q + c1.length + c2.length + c3.length + tln l0 by omega]
          exact w1
        · rw [c8 _ _ (by omega) (by omega) (by omega), c5 _ _ (by omega) (by omega) (by omega), wI_i, if_neg (by omega), c3' _ _ (by omega) (by omega), wI_i, if_neg (by omega), wI_i, if_pos ⟨rfl, rfl⟩]
        · rw [c8 _ _ (by omega) (by omega) (by omega), c5 _ _ (by omega) (by omega) (by omega), wI_i, if_neg (by omega), c3' _ _ (by omega) (by omega), wI_i, if_pos ⟨rfl, rfl⟩]
        · exact rCode_ext x1 (fun x _ hx => d3 x hx)
        · rw [c8 _ _ (by omega) (by omega) (by omega), c5 _ _ (by omega) (by omega) (by omega), wI_i, if_pos ⟨rfl, rfl⟩]
        · exact rCode_ext y1 (fun x _ hx => d5 x hx)
        · rw [c8 _ _ (by omega) (by omega) (by omega)]; exact z4
        · exact rCode_ext z1 (fun x _ hx => d7 x hx)
        · rw [c8 _ _ (by omega) (by omega) (by omega)]; exact z5
        · rcases List.mem_cons.1 hz with y | y
          · rw [y]; exact ⟨x2, y2, z2⟩
          · exact w5.1 z y
        · rw [c8 a x a1 a2 (by omega), c5 a x (by omega) a2 (by omega), wI_i, if_neg (by omega), c3' a x (by omega) a2, wI_i, if_neg (by omega), wI_i, if_neg (by omega), k1 a x (by omega)]
        · rw [w10 a x a1 a2 hx, k8 a x (by omega), c5 a x (by omega) (by omega) (by omega), wI_i, if_neg (by omega), c3' a x (by omega) (by omega), wI_i, if_neg (by omega), wI_i, if_neg (by omega), k1 a x (by omega)]
      · rcases pb_er e with z | ⟨l0, t0, e1, e2⟩
        · exact ih.2 g t' z
        · cases e2
    · rw [if_neg c, if_neg (show ¬ decide (kR (K t) = 29) = true by rw [decide_eq_true_eq]; exact fun z => c ((kR_c _ (hK t)).1.1 z))]
      exact r_j129 hK hk h hb
