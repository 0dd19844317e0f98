/-! ===== a law told: both sides ===== -/
def lawP (K V : Nat → Nat) (k t : Nat) : PR LawT := pb (tkP K (16 + k) t) fun _ t1 => pb (tkP K 5 t1) fun _ t2 => lawL K V 4 t2
def setLa (T : Txt) (k : Nat) (l : LawT) : Txt := Txt.mk T.nS T.nG T.lo T.wo T.hr T.hs T.fe T.fo T.de T.se (fun j => if j = k then l else T.la j) (fun j => if j = k then true else T.tl j)
def cLs (T : Txt) (m : Mem) (e : Nat) : Prop := ∀ k, k < 4 → ∃ p, m.1 224 k = nI p ∧ cLaw m 221 (T.la k).2 p (T.la k).1 e
theorem cLaw_up {m : Mem} {las : Cd} {e e' : Nat} (he : e ≤ e') : ∀ {r : List (Cd × Cd × Cd)} {p : Nat}, cLaw m 221 las p r e → cLaw m 221 las p r e'
  | [], p, h => ⟨h.1, h.2.1, Nat.lt_of_lt_of_le h.2.2 he⟩
  | b :: r, p, h => ⟨h.1, h.2.1, h.2.2.1, h.2.2.2.1, h.2.2.2.2.1, cLaw_up he h.2.2.2.2.2⟩
theorem c_startLaw {m : Mem} {k p : Nat} (hk : k < 4) (h : m.1 221 3 = nI p) : fX2_startLaw 221 (nI k) m = some (wI m 224 k (nI p)) := by
  unfold fX2_startLaw
  rw [if_pos (inbN (by omega) (by omega)), nI_clamp (by omega), h, nm_ap]
theorem c_readLaw {K V : Nat → Nat} {N : Nat → List Nat} {P : Nat → Nat} {m : Mem} {t p k : Nat} {T : Txt} (hK : ∀ t, K t < 34) (hV : ∀ t, V t < 2 ^ 31) (hk : k < 4) (h : cPS K V N P m t p) (hl : cLs T m p) :
    (∀ l t', lawP K V k t = .ok (l, t') → ∃ m' e, fX4_readLaw 221 (nI k) m = some (true, m') ∧ cPS K V N P m' t' e ∧ cLs (setLa T k l) m' e ∧ okL l) ∧ (∀ f t', lawP K V k t = .error (f, t') → ∃ m', fX4_readLaw 221 (nI k) m = some (false, m') ∧ m'.1 3 0 = nI f ∧ m'.1 3 3 = nI t') := by
  have e16 : (16 : Int32) + nI k = nI (16 + k) := by
    have all : ∀ b, b < 4 → (16 : Int32) + nI b = nI (16 + b) := by decide
    exact all k hk
  have q1 := c_tkR (k := 16 + k) hK (by omega) h
  unfold lawP fX4_readLaw
  rw [e16]
  cases e1 : tkP K (16 + k) t with
  | error e =>
    obtain ⟨f0, t0⟩ := e
    obtain ⟨m', x1, x2, x3, x4⟩ := q1.2 f0 t0 e1
    rw [x1, bind_s, if_neg Bool.false_ne_true]
    refine ⟨fun l t' z => (by cases z), fun f t' z => ?_⟩
    cases z
    exact ⟨m', rfl, x3, x4⟩
  | ok z =>
    obtain ⟨u, t1⟩ := z
    obtain ⟨m1, x1, x2, rfl, lt1, rfl, s1⟩ := q1.1 u t1 e1
    rw [x1, bind_s, if_pos rfl]
    have q2 := c_tkR (k := 5) hK (by omega) s1
    rw [show (pb (.ok (u, t + 1) : PR Unit) fun _ t1 => pb (tkP K 5 t1) fun _ t2 => lawL K V 4 t2) = pb (tkP K 5 (t + 1)) fun _ t2 => lawL K V 4 t2 from rfl]
    cases e2 : tkP K 5 (t + 1) with
    | error e =>
      obtain ⟨f0, t0⟩ := e
      obtain ⟨m', y1, y2, y3, y4⟩ := q2.2 f0 t0 e2
      rw [show fX4_take 5 (true, wI m 3 3 (nI (t + 1))).2 = some (false, m') from y1, bind_s, if_neg Bool.false_ne_true]
      refine ⟨fun l t' z => (by cases z), fun f t' z => ?_⟩
      cases z
      exact ⟨m', rfl, y3, y4⟩
    | ok z =>
      obtain ⟨u2, t2⟩ := z
      obtain ⟨m2, y1, y2, rfl, lt2, y3, s2⟩ := q2.1 u2 t2 e2
      rw [show fX4_take 5 (true, wI m 3 3 (nI (t + 1))).2 = some (true, m2) from y1, bind_s, if_pos rfl, show fX2_startLaw 221 (nI k) (true, m2).2 = some (wI m2 224 k (nI p)) from c_startLaw hk s2.2.2.2.2.1, bind_s]
      have kp : ∀ z j, ¬ (z = 3 ∧ j = 3) → m2.1 z j = m.1 z j := by
        intro z j hz
        rw [y3, wI_i, if_neg (by omega), wI_i, if_neg (by omega)]
      have s3 : cPS K V N P (wI m2 224 k (nI p)) (t + 1 + 1) p := by
        obtain ⟨g1, g2, g3, g4, g5, g6⟩ := s2
        exact ⟨g1.fr (Sm.wI (by omega)), by rw [wI_i, if_neg (by omega)]; exact g2, g3, g4, by rw [wI_i, if_neg (by omega)]; exact g5, g6⟩
      obtain ⟨r1, r2⟩ := c_law28 hK hV 4 0 FU (wI m2 224 k (nI p)) (t + 1 + 1) p rfl (by unfold FU; omega) s3
      refine ⟨fun l t' z => ?_, fun f t' z => ?_⟩
      · obtain ⟨m', w1, w2, e, w3, w4, w5, w6, w7⟩ := r1 l t' z
        refine ⟨m', e, w1, w3, ?_, w7⟩
        have st : ∀ j, m'.1 224 j = (wI m2 224 k (nI p)).1 224 j := fun j => (w2 224 j (by simp [WE, WX4_readSum, inW])).1
        intro j hj
        show ∃ p, m'.1 224 j = nI p ∧ cLaw m' 221 (if j = k then l else T.la j).2 p (if j = k then l else T.la j).1 e
        by_cases c : j = k
        · subst c
          rw [if_pos rfl]
          exact ⟨p, by rw [st, wI_i, if_pos ⟨rfl, rfl⟩], w5⟩
        · rw [if_neg c]
          obtain ⟨p0, a1, a2⟩ := hl j hj
          refine ⟨p0, by rw [st, wI_i, if_neg (by omega), kp _ _ (by omega)]; exact a1, cLaw_up (by omega) (cLaw_ext a2 (fun x _ hx => ?_))⟩
          have y := w6 x hx
          rw [wI_i, if_neg (by omega), wI_i, if_neg (by omega), kp _ _ (by omega), kp _ _ (by omega)] at y
          exact y
      · obtain ⟨m', w1, w2, w3, w4⟩ := r2 f t' z
        exact ⟨m', w1, w3, w4⟩
/-! the reference -/
def rLs (v : Nat) (T : Txt) (m : Mem) (b q : Nat) : Prop := ∀ k, k < 4 → ∃ b1 e1, m.1 264 (4 * v + k) = nI b1 ∧ m.1 265 (4 * v + k) = nI e1 ∧ ((T.tl k = false ∧ b1 = e1 ∧ e1 ≤ 260) ∨ (T.tl k = true ∧ ∃ p, rLaw m (T.la k).2 b1 p (T.la k).1 e1 ∧ 420 * v ≤ p ∧ p + tln (T.la k) ≤ q ∧ 130 * v ≤ b1 ∧ e1 ≤ b))
theorem rLaw_ext {m m' : Mem} {las : Cd} {e : Nat} : ∀ {r : List (Cd × Cd × Cd)} {b p : Nat}, rLaw m las b p r e → (∀ x, x < p + tln (r, las) → m'.1 271 x = m.1 271 x ∧ m'.1 272 x = m.1 272 x) → (∀ a x, 266 ≤ a → a ≤ 270 → x < e → m'.1 a x = m.1 a x) → rLaw m' las b p r e
  | [], b, p, h, k1, k2 => by
    obtain ⟨h1, h2, h3, h4, h5, h6, h7⟩ := h
    have tl : tln (([], las) : LawT) = las.length := by simp [tln]
    exact ⟨by rw [k2 _ _ (by omega) (by omega) (by omega)]; exact h1, by rw [k2 _ _ (by omega) (by omega) (by omega)]; exact h2, by rw [k2 _ _ (by omega) (by omega) (by omega)]; exact h3, rCode_ext h4 (fun x _ hx => k1 x (by omega)), h5, h6, h7⟩
  | c :: r, b, p, h, k1, k2 => by
    obtain ⟨h1, h2, h3, h4, h5, h6, h7, h8, h9⟩ := h
    have le := rLaw_le h9
    have tl : tln ((c :: r, las) : LawT) = c.1.length + c.2.1.length + c.2.2.length + tln (r, las) := by
      simp only [tln, List.map_cons, List.sum_cons]; omega
    exact ⟨by rw [k2 _ _ (by omega) (by omega) (by omega)]; exact h1, by rw [k2 _ _ (by omega) (by omega) (by omega)]; exact h2, rCode_ext h3 (fun x _ hx => k1 x (by omega)), by rw [k2 _ _ (by omega) (by omega) (by omega)]; exact h4, rCode_ext h5 (fun x _ hx => k1 x (by omega)), by rw [k2 _ _ (by omega) (by omega) (by omega)]; exact h6, rCode_ext h7 (fun x _ hx => k1 x (by omega)), by rw [k2 _ _ (by omega) (by omega) (by omega)]; exact h8, rLaw_ext h9 (fun x hx => k1 x (by omega)) k2⟩
theorem rFS.up {P : Nat → Nat} {v β β' : Nat} {m0 m : Mem} {f t : Nat} (h : rFS P v β m0 m f t) (hb : β ≤ β') : rFS P v β' m0 m f t := by
  obtain ⟨h1, h2, h3, h4, b, h5, h6, h7, h8⟩ := h
  exact ⟨h1, h2, h3, h4, b, h5, h6, by omega, h8⟩
theorem f_tellLaw {P : Nat → Nat} {v : Nat} {m0 : Mem} {x : Int32} : ∀ m g t0, rFS P v 100 m0 m g t0 → ∃ m2, fX11_tellLaw x m = some m2 ∧ rFS P v 102 m0 m2 g t0 := by
  intro m g t0 h
  unfold fX11_tellLaw
  rw [f_must h.p, bind_s]
  exact f_12 4095 0 m g t0 (h.up (by omega))
theorem r_tellLaw {K V : Nat → Nat} {N : Nat → List Nat} {P : Nat → Nat} {v k : Nat} {m0 m : Mem} {t b q : Nat} {T : Txt} (hK : ∀ t, K t < 34) (hk : k < 4) (hKt : K t = 16 + k) (h : rLS K V N P v m0 m t b q) (hb : 4 * b ≤ 520 * v + t) (hl : rLs v T m b q) : rR P v 102 m0 (lawP K V k t) ((fX11_goesOn m).bind fun q36 => (fX11_tellLaw (nI k) q36).bind fun q37 => some q37) (fun l t' m' => ∃ b', rLS K V N P v m0 m' t' b' (q + tln l) ∧ 4 * b' ≤ 520 * v + t' ∧ rLs v (setLa T k l) m' b' (q + tln l) ∧ okL l) := by
  unfold lawP
  refine rBind (r_goR hKt (by omega) h) ?_ ?_
  · intro mm g t0 f
    obtain ⟨m2, x1, x2⟩ := f_tellLaw (x := nI k) _ _ _ f
    exact ⟨m2, by rw [x1, bind_s], x2⟩
  rintro u1 t1 m1 - ⟨rfl, lt1, rfl, s1⟩
  have k1 := w3_k (m := m) (x := nI (t + 1)) 11
  generalize wI m 243 11 (nI (t + 1)) = m1 at s1 k1
  have un : ∀ Y : Option Mem, (Y.bind fun q37 => some q37) = Y := by intro Y; cases Y <;> rfl
  rw [un]
  unfold fX11_tellLaw
  refine rBind (r_muR (k := 5) (k' := 5) hK (by omega) (kR_b _ (hK _)).2.2.2.1 (by omega) s1) (fun mm g t0 f => f_12 4095 0 mm g t0 (f.up (by omega))) ?_
  rintro u2 t2 m2 - ⟨rfl, lt2, rfl, s2⟩
  have k2 := w3_k (m := m1) (x := nI (t + 1 + 1)) 11
  generalize wI m1 243 11 (nI (t + 1 + 1)) = m2 at s2 k2
  rw [show m2.1 243 36 = nI b from s2.2.2.2.2.2.2.2.2.2.1]
  obtain ⟨r1, r2⟩ := r_law12 (b0 := b) hK hk 4 0 FU m2 (t + 1 + 1) b q rfl (by unfold FU; omega) s2 (by omega)
  refine ⟨fun l t' z => ?_, r2⟩
  obtain ⟨m', w1, e, w2, w3, w4, w5, w6, w7, w8, w9, w10, w11⟩ := r1 l t' z
  refine ⟨m', w1, e, w2, w3, ?_, w6⟩
  intro j hj
  show ∃ b1 e1, m'.1 264 (4 * v + j) = nI b1 ∧ m'.1 265 (4 * v + j) = nI e1 ∧ (((if j = k then true else T.tl j) = false ∧ b1 = e1 ∧ e1 ≤ 260) ∨ ((if j = k then true else T.tl j) = true ∧ ∃ p, rLaw m' (if j = k then l else T.la j).2 b1 p (if j = k then l else T.la j).1 e1 ∧ 420 * v ≤ p ∧ p + tln (if j = k then l else T.la j) ≤ q + tln l ∧ 130 * v ≤ b1 ∧ e1 ≤ e))
  by_cases c : j = k
  · subst c
    simp only [if_true]
    exact ⟨b, e, w7, w8, Or.inr ⟨trivial, q, w5, s2.2.2.2.2.2.2.2.2.1, Nat.le_refl _, s2.2.2.2.2.2.2.2.2.2.2.1, Nat.le_refl _⟩⟩
  · simp only [if_neg c]
    obtain ⟨b1, e1, a1, a2, a3⟩ := hl j hj
    refine ⟨b1, e1, by rw [w11 _ _ (by omega) (by omega) (by omega), k2 _ _ (by omega), k1 _ _ (by omega)]; exact a1, by rw [w11 _ _ (by omega) (by omega) (by omega), k2 _ _ (by omega), k1 _ _ (by omega)]; exact a2, ?_⟩
    rcases a3 with z | ⟨z1, p, z2, z3, z4, z5, z6⟩
    · exact Or.inl z
    · refine Or.inr ⟨z1, p, rLaw_ext z2 (fun x hx => ?_) (fun a x a1 a2 hx => ?_), z3, by omega, z5, by omega⟩
      · have hx2 : x < p + tln (T.la j) := hx
        have y := w9 x (by omega)
        rw [k2 _ _ (by omega), k2 _ _ (by omega), k1 _ _ (by omega), k1 _ _ (by omega)] at y
        exact y
      · rw [w10 a x a1 a2 (by omega), k2 _ _ (by omega), k1 _ _ (by omega)]
