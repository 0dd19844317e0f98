/-! ===== the component: death and seed told ===== -/
theorem cB2 {α β : Type} {R : PR α} {f : α → Nat → PR β} {X : Option (Bool × Mem)} {F : Bool × Mem → Option (Bool × Mem)} {G : Mem → Option (Bool × Mem)} {Q : α → Nat → Mem → Prop} {Q' : β → Nat → Mem → Prop} (h : cR R X Q) (hF : ∀ m', ∃ m2, F (false, m') = some (false, m2) ∧ m2.1 3 0 = m'.1 3 0 ∧ m2.1 3 3 = m'.1 3 3) (hG : ∀ m', F (true, m') = G m') (k : ∀ a t' m', R = .ok (a, t') → Q a t' m' → cR (f a t') (G m') Q') : cR (pb R f) (X.bind F) Q' := by
  obtain ⟨h1, h2⟩ := h
  cases R with
  | error e =>
    obtain ⟨f0, t0⟩ := e
    obtain ⟨m', x1, x2, x3⟩ := h2 f0 t0 rfl
    obtain ⟨m2, y1, y2, y3⟩ := hF m'
    refine ⟨fun a t' e => (by cases e), fun g t' e => ?_⟩
    cases e
    exact ⟨m2, by rw [x1, bind_s, y1], y2.trans x2, y3.trans x3⟩
  | ok z =>
    obtain ⟨a0, t0⟩ := z
    obtain ⟨m', x1, x2⟩ := h1 a0 t0 rfl
    rw [x1, bind_s, hG]
    exact k a0 t0 m' rfl x2
theorem cRd.w {K V : Nat → Nat} {N : Nat → List Nat} {P : Nat → Nat} {R : Rd} {m : Mem} {t e j x d s : Nat} (h : cRd K V N P R m t e) (hj : j = 8 ∨ j = 9) (hd : (wI m 215 j (nI x)).1 215 8 = nI d) (hs : (wI m 215 j (nI x)).1 215 9 = nI s) : cRd K V N P (Rd.mk (Txt.mk R.T.nS R.T.nG R.T.lo R.T.wo R.T.hr R.T.hs R.T.fe R.T.fo d s R.T.la R.T.tl) R.nf R.sn R.gn R.lt) (wI m 215 j (nI x)) t e := by
  have kp : ∀ a i, ¬ (a = 215 ∧ i = j) → (wI m 215 j (nI x)).1 a i = m.1 a i := fun a i ha => by rw [wI_i, if_neg ha]
  obtain ⟨g1, g2, g3, g4, g5, g6⟩ := h.ps
  refine ⟨⟨g1.fr (fun a i a1 a2 => ⟨kp a i (by omega), rfl⟩), by rw [kp _ _ (by omega)]; exact g2, g3, g4, by rw [kp _ _ (by omega)]; exact g5, g6⟩, by rw [kp _ _ (by omega)]; exact h.nS, h.s4, by rw [kp _ _ (by omega)]; exact h.nG, h.g7, by rw [kp _ _ (by omega)]; exact h.nf, h.f8, hd, hs, ?_, ?_, h.fg, ?_, ?_⟩
  · intro z hz
    have := h.lo z hz
    show (wI m 215 j (nI x)).1 216 z = nI (R.T.lo z) ∧ (wI m 215 j (nI x)).1 217 z = nI (R.T.wo z) ∧ (wI m 215 j (nI x)).2 229 z = lN (pkw 32 (R.sn z)) ∧ ltOk (R.sn z)
    rw [kp _ _ (by omega), kp _ _ (by omega), wI_l]
    exact this
  · intro g hg
    have := h.gu g hg
    show (wI m 215 j (nI x)).1 218 g = nI (R.T.hr g) ∧ (wI m 215 j (nI x)).1 219 g = nI (R.T.hs g) ∧ (wI m 215 j (nI x)).1 220 g = nI (R.T.fe g) ∧ (wI m 215 j (nI x)).1 228 g = nI (bs (R.T.fo g) 7) ∧ (wI m 215 j (nI x)).2 230 g = lN (pkw 32 (R.gn g)) ∧ ltOk (R.gn g)
    rw [kp _ _ (by omega), kp _ _ (by omega), kp _ _ (by omega), kp _ _ (by omega), wI_l]
    exact this
  · intro i hi
    obtain ⟨p0, a1, a2⟩ := h.la i hi
    exact ⟨p0, by rw [kp _ _ (by omega)]; exact a1, cLaw_ext a2 (fun z _ _ => ⟨kp _ _ (by omega), kp _ _ (by omega)⟩)⟩
  · have := h.lt
    show cLt P R.lt (wI m 215 j (nI x))
    unfold cLt at this ⊢
    rw [kp 3 4 (by omega), kp 3 5 (by omega)]
    exact this
theorem back8 {j : Nat} (m' : Mem) {A B : Option (Bool × Mem)} : ∃ m2, (if (false, m').1 = true then A else if (0 : Int32) = 0 then nm (wI m' 215 j (m'.1 215 j)) fun μ => some (false, μ) else B) = some (false, m2) ∧ m2.1 3 0 = m'.1 3 0 ∧ m2.1 3 3 = m'.1 3 3 :=
  ⟨wI m' 215 j (m'.1 215 j), by rw [if_neg Bool.false_ne_true, if_pos rfl, nm_ap], by rw [wI_i, if_neg (by omega)], by rw [wI_i, if_neg (by omega)]⟩
theorem c_death {K V : Nat → Nat} {N : Nat → List Nat} {P : Nat → Nat} {R : Rd} {m : Mem} {t e : Nat} (hK : ∀ t, K t < 34) (hV : ∀ t, V t < 2 ^ 31) (h : cRd K V N P R m t e) : cR (pb (tkP K 20 t) fun _ t1 => pb (intP K V 1 999 R t1) fun R1 t2 => pb (tkP K 4 t2) fun _ t3 => .ok (setD R1 (V t1), t3)) (fX4_readTell_j66 215 20 m) (fun R' t' m' => cRd K V N P R' m' t' e) := by
  unfold fX4_readTell_j66
  rw [if_pos rfl]
  refine cB2 (c_tkD (k := 20) hK (by omega) h) (fun m' => back8 m') (fun _ => if_pos rfl) ?_
  rintro u1 t1 m1 - ⟨rfl, l1, k1, -, s1⟩
  refine cB2 (c_tkI (a := 1) (b := 999) hK hV (by omega) (by omega) s1) (fun m' => back8 m') (fun _ => if_pos rfl) ?_
  rintro R2 t2 m2 - ⟨rfl, rfl, l2, k2, s2⟩
  refine cB2 (c_tkD (k := 4) hK (by omega) s2) (fun m' => back8 m') (fun _ => if_pos rfl) ?_
  rintro u3 t3 m3 - ⟨rfl, l3, k3, -, s3⟩
  have e2 : t + 1 + 1 + 1 - 2 = t + 1 := by omega
  have b2 := c_intB s3.ps (d := 2) (by omega) (by omega) (by rw [e2]; exact k2)
  rw [e2] at b2
  refine ⟨fun R' t' z => ?_, fun f t' z => (by cases z)⟩
  cases z
  rw [if_neg (by decide), show fX4_intBehind 2 (true, m3).2 = _ from b2, bind_s, nm_ap]
  exact ⟨_, rfl, s3.w (j := 8) (Or.inl rfl) (by rw [wI_i, if_pos ⟨rfl, rfl⟩]) (by rw [wI_i, if_neg (by omega)]; exact s3.se)⟩
theorem c_seed {K V : Nat → Nat} {N : Nat → List Nat} {P : Nat → Nat} {R : Rd} {m : Mem} {t e : Nat} (hK : ∀ t, K t < 34) (hV : ∀ t, V t < 2 ^ 31) (h : cRd K V N P R m t e) : cR (pb (tkP K 21 t) fun _ t1 => pb (intP K V 0 9999 R t1) fun R1 t2 => pb (tkP K 4 t2) fun _ t3 => .ok (setE R1 (V t1), t3)) (fX4_readTell_j66 215 21 m) (fun R' t' m' => cRd K V N P R' m' t' e) := by
  unfold fX4_readTell_j66
  rw [if_neg (by decide), if_pos rfl]
  refine cB2 (c_tkD (k := 21) hK (by omega) h) (fun m' => back8 m') (fun _ => if_pos rfl) ?_
  rintro u1 t1 m1 - ⟨rfl, l1, k1, -, s1⟩
  refine cB2 (c_tkI (a := 0) (b := 9999) hK hV (by omega) (by omega) s1) (fun m' => back8 m') (fun _ => if_pos rfl) ?_
  rintro R2 t2 m2 - ⟨rfl, rfl, l2, k2, s2⟩
  refine cB2 (c_tkD (k := 4) hK (by omega) s2) (fun m' => back8 m') (fun _ => if_pos rfl) ?_
  rintro u3 t3 m3 - ⟨rfl, l3, k3, -, s3⟩
  have e2 : t + 1 + 1 + 1 - 2 = t + 1 := by omega
  have b2 := c_intB s3.ps (d := 2) (by omega) (by omega) (by rw [e2]; exact k2)
  rw [e2] at b2
  refine ⟨fun R' t' z => ?_, fun f t' z => (by cases z)⟩
  cases z
  rw [if_neg (by decide), show fX4_intBehind 2 (true, m3).2 = _ from b2, bind_s, nm_ap]
  exact ⟨_, rfl, s3.w (j := 9) (Or.inr rfl) (by rw [wI_i, if_neg (by omega)]; exact s3.de) (by rw [wI_i, if_pos ⟨rfl, rfl⟩])⟩
