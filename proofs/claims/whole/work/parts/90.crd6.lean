/-! ===== the component: foes told, whole ===== -/
theorem c_areFoes {K V : Nat → Nat} {N : Nat → List Nat} {P : Nat → Nat} {R : Rd} {m : Mem} {t e g o : Nat} (h : cRd K V N P R m t e) (hg : g < R.T.nG) (ho : o < R.T.nG) : fX7_areFoes 215 (nI g) (nI o) m = some (R.T.fo g o) := by
  have g7 := h.g7
  unfold fX7_areFoes
  rw [if_pos (inbN (by omega) (by omega)), nI_clamp (by omega), show (215 : Nat) + 13 = 228 from rfl, (h.gu g hg).2.2.2.1, nI_bit (bs_lt31 _ (by omega)) (by omega)]
  have hb : (bs (R.T.fo g) 7).testBit o = R.T.fo g o := by rw [bs_bit, decide_eq_true (show o < 7 by omega), Bool.true_and]
  cases hd : R.T.fo g o with
  | true => rw [if_pos (bit_one.2 (by rw [hb, hd]))]
  | false => rw [if_neg (fun q => by have := bit_one.1 q; rw [hb, hd] at this; cases this)]
theorem c_lateAt {K V : Nat → Nat} {N : Nat → List Nat} {P : Nat → Nat} {R : Rd} {m : Mem} {t e f s : Nat} (h : cRd K V N P R m t e) (hf : 1 ≤ f ∧ f ≤ 5) (hs : s < t) : ∃ m', fX4_keepLate (nI f) (nI s) m = some m' ∧ cRd K V N P (setLt R (late R.lt true f s)) m' t e := by
  obtain ⟨g1, g2, g3, g4, g5, g6⟩ := h.ps
  obtain ⟨m', x1, x2, x3, x4⟩ := c_keepLate h.lt hf (by omega) (g1 s (by omega) (fun j hj => g4 j (by omega))).2.1
  exact ⟨m', x1, h.k (fun a j a1 a2 => ⟨x3 a j (by omega), x4 a j⟩) ⟨g1.fr (fun a j a1 a2 => ⟨x3 a j (by omega), x4 a j⟩), by rw [x3 _ _ (by omega)]; exact g2, g3, g4, by rw [x3 _ _ (by omega)]; exact g5, g6⟩ x2⟩
theorem c_readFoes {K V : Nat → Nat} {N : Nat → List Nat} {P : Nat → Nat} {R : Rd} {m : Mem} {t e : Nat} (hK : ∀ t, K t < 34) (hN : ∀ t, K t = 2 → ltOk (N t)) (h : cRd K V N P R m t e) : cR (foeP K N R t) (fX4_readFoes 215 m) (fun R' t' m' => cRd K V N P R' m' t' e) := by
  have f8 := h.f8
  have g7 := h.g7
  unfold foeP fX4_readFoes
  by_cases c4 : R.nf < 8
  · rw [if_pos c4, h.nf, if_pos (show nI R.nf < 8 by rw [show (8 : Int32) = nI 8 from rfl]; exact nI_lt c4 (by omega))]
    refine cB (c_tkD (k := 15) hK (by omega) h) (fun _ => if_neg Bool.false_ne_true) (fun _ => if_pos rfl) ?_
    rintro u1 t1 m1 - ⟨rfl, l1, k1, -, s1⟩
    refine cB (c_tkD (k := 2) hK (by omega) s1) (fun _ => if_neg Bool.false_ne_true) (fun _ => if_pos rfl) ?_
    rintro u2 t2 m2 - ⟨rfl, l2, k2, -, s2⟩
    refine cB (c_tkD (k := 2) hK (by omega) s2) (fun _ => if_neg Bool.false_ne_true) (fun _ => if_pos rfl) ?_
    rintro u3 t3 m3 - ⟨rfl, l3, k3, -, s3⟩
    refine cB (c_tkD (k := 4) hK (by omega) s3) (fun _ => if_neg Bool.false_ne_true) (fun _ => if_pos rfl) ?_
    rintro u4 t4 m4 - ⟨rfl, l4, k4, -, s4⟩
    obtain ⟨g1, g2, g3, g4, g5, g6⟩ := s4.ps
    have n1 := (g1 (t + 1) (by omega) (fun j hj => g4 j (by omega))).2.2.2 k2
    have n2 := (g1 (t + 1 + 1) (by omega) (fun j hj => g4 j (by omega))).2.2.2 k3
    have p3 : m4.1 3 3 - 3 = nI (t + 1) := by
      rw [g2]
      exact nI_back (a := t + 1 + 1 + 1 + 1) (b := 3) (by omega)
    have p2 : m4.1 3 3 - 2 = nI (t + 1 + 1) := by
      rw [g2]
      exact nI_back (a := t + 1 + 1 + 1 + 1) (b := 2) (by omega)
    have gn1 := c_guestNamed (hN _ k2) s4
    have gn2 := c_guestNamed (hN _ k3) s4
    refine ⟨fun R' t' z => ?_, fun f t' z => (by cases z)⟩
    cases z
    simp only [p3, p2]
    rw [if_pos (inbN (by omega) (by omega)), nI_clamp (by omega), n1, gn1]
    have ng : ∀ x, x < R.T.nG → ¬ nI x < 0 := fun x hx => by rw [L_0]; exact nI_nlt (by omega) (by omega)
    unfold addF
    cases e1 : fnd R.gn (N (t + 1)) R.T.nG 0 with
    | none =>
      obtain ⟨m5, x1, x2⟩ := c_lateAt (f := 4) (s := t + 1) s4 (by omega) (by omega)
      simp only [bind_s]
      rw [if_pos (inbN (by omega) (by omega)), nI_clamp (by omega), n2, gn2]
      cases e2 : fnd R.gn (N (t + 1 + 1)) R.T.nG 0 with
      | none =>
        obtain ⟨m6, y1, y2⟩ := c_addF0 (a := -1) (b := -1) x2 c4 (Or.inl (by decide))
        simp only [bind_s]
        rw [if_pos (by decide), show fX4_keepLate 4 (nI (t + 1)) m4 = some m5 from x1, bind_s, y1, bind_s]
        exact ⟨m6, rfl, y2⟩
      | some o =>
        obtain ⟨m6, y1, y2⟩ := c_addF0 (a := -1) (b := nI o) x2 c4 (Or.inl (by decide))
        simp only [bind_s]
        rw [if_pos (by decide), show fX4_keepLate 4 (nI (t + 1)) m4 = some m5 from x1, bind_s, y1, bind_s]
        exact ⟨m6, rfl, y2⟩
    | some g =>
      have hg := (fnd_lt e1).2
      simp only [bind_s]
      rw [if_pos (inbN (by omega) (by omega)), nI_clamp (by omega), n2, gn2]
      cases e2 : fnd R.gn (N (t + 1 + 1)) R.T.nG 0 with
      | none =>
        obtain ⟨m5, x1, x2⟩ := c_lateAt (f := 4) (s := t + 2) s4 (by omega) (by omega)
        obtain ⟨m6, y1, y2⟩ := c_addF0 (a := nI g) (b := -1) x2 c4 (Or.inr ⟨ng g (by omega), by decide⟩)
        simp only [bind_s]
        rw [if_neg (ng g (by omega)), if_pos (by decide), show fX4_keepLate 4 (nI (t + 1 + 1)) m4 = some m5 from x1, bind_s, y1, bind_s]
        exact ⟨m6, rfl, y2⟩
      | some o =>
        have ho := (fnd_lt e2).2
        obtain ⟨m5, x1, x2⟩ := c_lateAt (f := 3) (s := t + 2) s4 (by omega) (by omega)
        obtain ⟨m6, y1, y2⟩ := c_addF1 (g := g) (o := o) x2 c4 (show g < R.T.nG by omega) (show o < R.T.nG by omega)
        simp only [bind_s]
        rw [if_neg (ng g (by omega)), if_neg (ng o (by omega))]
        by_cases c : g = o
        · rw [if_pos (by rw [c]), show fX4_keepLate 3 (nI (t + 1 + 1)) m4 = some m5 from x1, bind_s, y1, bind_s, show (g == o) = true from beq_iff_eq.2 c, Bool.true_or]
          exact ⟨m6, rfl, y2⟩
        · rw [if_neg (fun q => c ((nI_eq (by omega) (by omega)).1 q)), c_areFoes s4 (by omega) (by omega), bind_s, show (g == o) = false from beq_eq_false_iff_ne.2 c, Bool.false_or]
          cases hd : R.T.fo g o with
          | true =>
            rw [if_pos rfl, show fX4_keepLate 3 (nI (t + 1 + 1)) m4 = some m5 from x1, bind_s, y1, bind_s]
            exact ⟨m6, rfl, y2⟩
          | false =>
            obtain ⟨m7, z1, z2⟩ := c_addF1 (g := g) (o := o) s4 c4 (show g < R.T.nG by omega) (show o < R.T.nG by omega)
            rw [if_neg Bool.false_ne_true, z1, bind_s, late_no]
            exact ⟨m7, rfl, z2⟩
  · rw [if_neg c4, h.nf, if_neg (show ¬ nI R.nf < 8 by rw [show (8 : Int32) = nI 8 from rfl]; exact nI_nlt (by omega) (by omega))]
    refine ⟨fun a t' z => (by cases z), fun f t' z => ?_⟩
    cases z
    unfold fX4_fail
    rw [nm_ap, bind_s]
    exact ⟨_, rfl, by rw [wI_i, if_pos ⟨rfl, rfl⟩]; rfl, by rw [wI_i, if_neg (by omega)]; exact h.ps.2.1⟩
