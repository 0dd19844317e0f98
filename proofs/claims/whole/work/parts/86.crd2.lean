/-! ===== the component: a Sunday told, a guest told ===== -/
theorem c_addS {K V : Nat → Nat} {N : Nat → List Nat} {P : Nat → Nat} {R : Rd} {m : Mem} {t e : Nat} {w : List Nat} {x y : Nat} (h : cRd K V N P R m t e) (hw : ltOk w) (h4 : R.T.nS < 4) : ∃ m', fX7_addSunday 215 (lN (pkw 32 w)) (nI x) (nI y) m = some m' ∧ cRd K V N P (addS R w x y) m' t e := by
  have hn := h.nS
  have bi : inb (nI R.T.nS) 4 := inbN h4 (by omega)
  have ci : (nI R.T.nS).toNatClampNeg = R.T.nS := nI_clamp (by omega)
  have run : fX7_addSunday 215 (lN (pkw 32 w)) (nI x) (nI y) m = some (wI (wI (wI (wJ m 229 R.T.nS (lN (pkw 32 w))) 216 R.T.nS (nI x)) 217 R.T.nS (nI y)) 215 0 (nI (R.T.nS + 1))) := by
    have e1 : (wJ m 229 R.T.nS (lN (pkw 32 w))).1 215 0 = nI R.T.nS := hn
    have e2 : (wI (wJ m 229 R.T.nS (lN (pkw 32 w))) 216 R.T.nS (nI x)).1 215 0 = nI R.T.nS := by rw [wI_i, if_neg (by omega)]; exact e1
    have e3 : (wI (wI (wJ m 229 R.T.nS (lN (pkw 32 w))) 216 R.T.nS (nI x)) 217 R.T.nS (nI y)).1 215 0 = nI R.T.nS := by rw [wI_i, if_neg (by omega)]; exact e2
    unfold fX7_addSunday
    simp only [hn, if_pos bi, ci, nm_ap, show (215 : Nat) + 14 = 229 from rfl, show (215 : Nat) + 1 = 216 from rfl, show (215 : Nat) + 2 = 217 from rfl, e1, e2, e3, nI_1]
    rw [if_pos (show nI R.T.nS < 4 by rw [L_4]; exact nI_lt h4 (by omega))]
  refine ⟨_, run, ?_⟩
  have kp : ∀ a j, ¬ (a = 216 ∨ a = 217 ∨ (a = 215 ∧ j = 0)) → (wI (wI (wI (wJ m 229 R.T.nS (lN (pkw 32 w))) 216 R.T.nS (nI x)) 217 R.T.nS (nI y)) 215 0 (nI (R.T.nS + 1))).1 a j = m.1 a j := by
    intro a j ha
    rw [wI_i, if_neg (by omega), wI_i, if_neg (by omega), wI_i, if_neg (by omega)]
    rfl
  have kl : ∀ a j, ¬ (a = 229 ∧ j = R.T.nS) → (wI (wI (wI (wJ m 229 R.T.nS (lN (pkw 32 w))) 216 R.T.nS (nI x)) 217 R.T.nS (nI y)) 215 0 (nI (R.T.nS + 1))).2 a j = m.2 a j := by
    intro a j ha
    rw [wI_l, wI_l, wI_l, wJ_l, if_neg ha]
  have n1 : (wI (wI (wI (wJ m 229 R.T.nS (lN (pkw 32 w))) 216 R.T.nS (nI x)) 217 R.T.nS (nI y)) 215 0 (nI (R.T.nS + 1))).2 229 R.T.nS = lN (pkw 32 w) := by rw [wI_l, wI_l, wI_l, wJ_l, if_pos ⟨rfl, rfl⟩]
  have n2 : ∀ j, (wI (wI (wI (wJ m 229 R.T.nS (lN (pkw 32 w))) 216 R.T.nS (nI x)) 217 R.T.nS (nI y)) 215 0 (nI (R.T.nS + 1))).1 216 j = if j = R.T.nS then nI x else m.1 216 j := by
    intro j
    rw [wI_i, if_neg (by omega), wI_i, if_neg (by omega), wI_i]
    by_cases c : j = R.T.nS
    · rw [if_pos ⟨rfl, c⟩, if_pos c]
    · rw [if_neg (by omega), if_neg c]; rfl
  have n3 : ∀ j, (wI (wI (wI (wJ m 229 R.T.nS (lN (pkw 32 w))) 216 R.T.nS (nI x)) 217 R.T.nS (nI y)) 215 0 (nI (R.T.nS + 1))).1 217 j = if j = R.T.nS then nI y else m.1 217 j := by
    intro j
    rw [wI_i, if_neg (by omega), wI_i]
    by_cases c : j = R.T.nS
    · rw [if_pos ⟨rfl, c⟩, if_pos c]
    · rw [if_neg (by omega), if_neg c, wI_i, if_neg (by omega)]; rfl
  have n4 : (wI (wI (wI (wJ m 229 R.T.nS (lN (pkw 32 w))) 216 R.T.nS (nI x)) 217 R.T.nS (nI y)) 215 0 (nI (R.T.nS + 1))).1 215 0 = nI (R.T.nS + 1) := by rw [wI_i, if_pos ⟨rfl, rfl⟩]
  generalize wI (wI (wI (wJ m 229 R.T.nS (lN (pkw 32 w))) 216 R.T.nS (nI x)) 217 R.T.nS (nI y)) 215 0 (nI (R.T.nS + 1)) = m' at kp kl n1 n2 n3 n4
  obtain ⟨g1, g2, g3, g4, g5, g6⟩ := h.ps
  refine ⟨⟨g1.fr (fun a j a1 a2 => ⟨kp a j (by omega), kl a j (by omega)⟩), by rw [kp _ _ (by omega)]; exact g2, g3, g4, by rw [kp _ _ (by omega)]; exact g5, g6⟩, n4, h4, by rw [kp _ _ (by omega)]; exact h.nG, h.g7, by rw [kp _ _ (by omega)]; exact h.nf, h.f8, by rw [kp _ _ (by omega)]; exact h.de, by rw [kp _ _ (by omega)]; exact h.se, ?_, ?_, h.fg, ?_, ?_⟩
  · intro s hs
    have hs2 : s < R.T.nS + 1 := hs
    show m'.1 216 s = nI (if s = R.T.nS then x else R.T.lo s) ∧ m'.1 217 s = nI (if s = R.T.nS then y else R.T.wo s) ∧ m'.2 229 s = lN (pkw 32 (if s = R.T.nS then w else R.sn s)) ∧ ltOk (if s = R.T.nS then w else R.sn s)
    by_cases c : s = R.T.nS
    · rw [n2, n3, if_pos c, if_pos c, if_pos c, if_pos c, if_pos c, c]
      exact ⟨rfl, rfl, n1, hw⟩
    · have := h.lo s (by omega)
      rw [n2, n3, if_neg c, if_neg c, if_neg c, if_neg c, if_neg c, kl _ _ (by omega)]
      exact this
  · intro g hg
    have := h.gu g hg
    show m'.1 218 g = nI (R.T.hr g) ∧ m'.1 219 g = nI (R.T.hs g) ∧ m'.1 220 g = nI (R.T.fe g) ∧ m'.1 228 g = nI (bs (R.T.fo g) 7) ∧ m'.2 230 g = lN (pkw 32 (R.gn g)) ∧ ltOk (R.gn g)
    rw [kp _ _ (by omega), kp _ _ (by omega), kp _ _ (by omega), kp _ _ (by omega), kl _ _ (by omega)]
    exact this
  · intro j hj
    obtain ⟨p0, a1, a2⟩ := h.la j hj
    exact ⟨p0, by rw [kp _ _ (by omega)]; exact a1, cLaw_ext a2 (fun z _ _ => ⟨kp _ _ (by omega), kp _ _ (by omega)⟩)⟩
  · have := h.lt
    show cLt P R.lt m'
    unfold cLt at this ⊢
    rw [kp 3 4 (by omega), kp 3 5 (by omega)]
    exact this
theorem c_readSunday {K V : Nat → Nat} {N : Nat → List Nat} {P : Nat → Nat} {R : Rd} {m : Mem} {t e : Nat} (hK : ∀ t, K t < 34) (hV : ∀ t, V t < 2 ^ 31) (hN : ∀ t, K t = 2 → ltOk (N t)) (h : cRd K V N P R m t e) : cR (sunP K V N R t) (fX4_readSunday 215 m) (fun R' t' m' => cRd K V N P R' m' t' e) := by
  have s4 := h.s4
  unfold sunP fX4_readSunday
  by_cases c4 : R.T.nS < 4
  · rw [if_pos c4, h.nS, if_pos (show nI R.T.nS < 4 by rw [L_4]; exact nI_lt c4 (by omega))]
    refine cB (c_tkD (k := 13) hK (by omega) h) (fun _ => if_neg Bool.false_ne_true) (fun _ => if_pos rfl) ?_
    rintro u1 t1 m1 - ⟨rfl, l1, k1, -, s1⟩
    refine cB (c_tkN hK hN s1) (fun _ => if_neg Bool.false_ne_true) (fun _ => if_pos rfl) ?_
    rintro R1 t2 m2 - ⟨rfl, rfl, l2, k2, s2⟩
    refine cB (c_tkI (a := 1) (b := 24) hK hV (by omega) (by omega) s2) (fun _ => if_neg Bool.false_ne_true) (fun _ => if_pos rfl) ?_
    rintro R2 t3 m3 - ⟨rfl, rfl, l3, k3, s3⟩
    refine cB (c_tkI (a := 0) (b := 99) hK hV (by omega) (by omega) s3) (fun _ => if_neg Bool.false_ne_true) (fun _ => if_pos rfl) ?_
    rintro R3 t4 m4 - ⟨rfl, rfl, l4, k4, s4'⟩
    refine cB (c_tkD (k := 4) hK (by omega) s4') (fun _ => if_neg Bool.false_ne_true) (fun _ => if_pos rfl) ?_
    rintro u5 t5 m5 - ⟨rfl, l5, k5, -, s5⟩
    obtain ⟨g1, g2, g3, g4, g5, g6⟩ := s5.ps
    have e4 : t + 1 + 1 + 1 + 1 + 1 - 4 = t + 1 := by omega
    have e3 : t + 1 + 1 + 1 + 1 + 1 - 3 = t + 1 + 1 := by omega
    have e2 : t + 1 + 1 + 1 + 1 + 1 - 2 = t + 1 + 1 + 1 := by omega
    have nmw := (g1 (t + 1) (by omega) (fun j hj => g4 j (by omega))).2.2.2 k2
    have b3 := c_intB s5.ps (d := 3) (by omega) (by omega) (by rw [e3]; exact k3)
    have b2 := c_intB s5.ps (d := 2) (by omega) (by omega) (by rw [e2]; exact k4)
    have pos : m5.1 3 3 - 4 = nI (t + 1) := by
      rw [g2, ← e4]
      exact nI_back (a := t + 1 + 1 + 1 + 1 + 1) (b := 4) (by omega)
    refine ⟨fun R' t' z => ?_, fun f t' z => (by cases z)⟩
    cases z
    show ∃ m', (if inb (m5.1 3 3 - 4) 402 then (fX4_intBehind 3 m5).bind fun q6 => (fX4_intBehind 2 m5).bind fun q7 => (fX7_addSunday 215 (m5.2 7 (m5.1 3 3 - 4).toNatClampNeg) q6 q7 m5).bind fun q8 => some (true, q8) else none) = some (true, m') ∧ _
    obtain ⟨m6, x1, x2⟩ := c_addS (x := V (t + 1 + 1 + 1 + 1 + 1 - 3)) (y := V (t + 1 + 1 + 1 + 1 + 1 - 2)) s5 (hN _ k2) c4
    rw [pos, if_pos (inbN (by omega) (by omega)), nI_clamp (by omega), nmw, show fX4_intBehind 3 m5 = _ from b3, bind_s, show fX4_intBehind 2 m5 = _ from b2, bind_s, x1, bind_s]
    refine ⟨m6, rfl, ?_⟩
    rw [e4]
    exact x2
  · rw [if_neg c4, h.nS, if_neg (show ¬ nI R.T.nS < 4 by rw [L_4]; exact nI_nlt (by omega) (by omega))]
    refine ⟨fun a t' z => (by cases z), fun f t' z => ?_⟩
    cases z
    unfold fX4_fail
    rw [nm_ap, bind_s]
    exact ⟨_, rfl, by rw [wI_i, if_pos ⟨rfl, rfl⟩]; rfl, by rw [wI_i, if_neg (by omega)]; exact h.ps.2.1⟩
