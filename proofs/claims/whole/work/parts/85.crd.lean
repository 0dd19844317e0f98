/-! ===== the component: names and numbers ===== -/
theorem nI_back {a b : Nat} (h : b ≤ a) : nI a - nI b = nI (a - b) := by
  have e : nI a = nI (a - b) + nI b := by rw [nI_add, Nat.sub_add_cancel h]
  rw [e]
  apply Int32.toBitVec.inj
  simp
theorem c_intB {K V : Nat → Nat} {N : Nat → List Nat} {P : Nat → Nat} {m : Mem} {t e d : Nat} (h : cPS K V N P m t e) (hd : d ≤ t) (h1 : 1 ≤ d) (hk : K (t - d) = 3) : fX4_intBehind (nI d) m = some (nI (V (t - d))) := by
  obtain ⟨g1, g2, g3, g4, g5, g6⟩ := h
  have tk := (g1 (t - d) (by omega) (fun j hj => g4 j (by omega))).2.2.1 hk
  unfold fX4_intBehind
  rw [g2, if_neg (nI_nlt hd (by omega)), nI_back hd, if_pos (inbN (by omega) (by omega)), nI_clamp (by omega), tk, lN_i32]
theorem c_gN {m : Mem} {R : Rd} {w : List Nat} (hw : ltOk w) (hg : R.T.nG ≤ 7) (h3 : m.1 215 3 = nI R.T.nG) (hn : ∀ g, g < R.T.nG → m.2 230 g = lN (pkw 32 (R.gn g)) ∧ ltOk (R.gn g)) (Kc : Unit → Option Int32) : ∀ r i n, i + r = R.T.nG → r < n → fX7_guestNamed_2 215 (lN (pkw 32 w)) m Kc n (nI i) = (match fnd R.gn w r i with | some g => some (nI g) | none => Kc ())
  | r, i, 0, _, h => by omega
  | 0, i, n + 1, hi, _ => by
    rw [fX7_guestNamed_2, h3, if_neg (nI_nlt (by omega) (by omega)), fnd]
  | r + 1, i, n + 1, hi, hn' => by
    have hi' := hn i (by omega)
    rw [fX7_guestNamed_2, h3, if_pos (nI_lt (by omega) (by omega)), if_pos (inbN (by omega) (by omega)), nI_clamp (by omega), show (215 : Nat) + 15 = 230 from rfl, hi'.1, fnd]
    by_cases c : R.gn i = w
    · rw [if_pos (by rw [c]), if_pos c]
    · rw [if_neg (fun z => c ((pkl_eq (by omega) (by omega) hi'.2 hw).1 z)), if_neg c, nI_1]
      exact c_gN hw hg h3 hn Kc r (i + 1) n (by omega) (by omega)
theorem fnd_lt {f : Nat → List Nat} {w : List Nat} : ∀ {r i g : Nat}, fnd f w r i = some g → i ≤ g ∧ g < i + r
  | 0, i, g, h => by rw [fnd] at h; cases h
  | r + 1, i, g, h => by
    rw [fnd] at h
    by_cases c : f i = w
    · rw [if_pos c] at h
      cases h
      omega
    · rw [if_neg c] at h
      have := fnd_lt h
      omega
theorem c_guestNamed {K V : Nat → Nat} {N : Nat → List Nat} {P : Nat → Nat} {R : Rd} {m : Mem} {t e : Nat} {w : List Nat} (hw : ltOk w) (h : cRd K V N P R m t e) : fX7_guestNamed 215 (lN (pkw 32 w)) m = (match fnd R.gn w R.T.nG 0 with | some g => some (nI g) | none => some (-1)) := by
  have g7 := h.g7
  unfold fX7_guestNamed
  exact c_gN hw h.g7 h.nG (fun g hg => ⟨(h.gu g hg).2.2.2.2.1, (h.gu g hg).2.2.2.2.2⟩) _ R.T.nG 0 FU (by omega) (by unfold FU; omega)
theorem c_nN {m : Mem} {R : Rd} {w : List Nat} (hw : ltOk w) (hg : R.T.nS ≤ 4) (h3 : m.1 215 0 = nI R.T.nS) (hn : ∀ g, g < R.T.nS → m.2 229 g = lN (pkw 32 (R.sn g)) ∧ ltOk (R.sn g)) (Kc : Unit → Option Bool) : ∀ r i n, i + r = R.T.nS → r < n → fX7_isNamed_2 215 (lN (pkw 32 w)) m Kc n (nI i) = (match fnd R.sn w r i with | some _ => some true | none => Kc ())
  | r, i, 0, _, h => by omega
  | 0, i, n + 1, hi, _ => by
    rw [fX7_isNamed_2, h3, if_neg (nI_nlt (by omega) (by omega)), fnd]
  | r + 1, i, n + 1, hi, hn' => by
    have hi' := hn i (by omega)
    rw [fX7_isNamed_2, h3, if_pos (nI_lt (by omega) (by omega)), if_pos (inbN (by omega) (by omega)), nI_clamp (by omega), show (215 : Nat) + 14 = 229 from rfl, hi'.1, fnd]
    by_cases c : R.sn i = w
    · rw [if_pos (by rw [c]), if_pos c]
    · rw [if_neg (fun z => c ((pkl_eq (by omega) (by omega) hi'.2 hw).1 z)), if_neg c, nI_1]
      exact c_nN hw hg h3 hn Kc r (i + 1) n (by omega) (by omega)
theorem c_isNamed {K V : Nat → Nat} {N : Nat → List Nat} {P : Nat → Nat} {R : Rd} {m : Mem} {t e : Nat} {w : List Nat} (hw : ltOk w) (h : cRd K V N P R m t e) : fX7_isNamed 215 (lN (pkw 32 w)) m = some (nmd R w) := by
  have s4 := h.s4
  have g7 := h.g7
  unfold fX7_isNamed nmd
  refine (c_nN hw h.s4 h.nS (fun g hg => ⟨(h.lo g hg).2.2.1, (h.lo g hg).2.2.2⟩) _ R.T.nS 0 FU (by omega) (by unfold FU; omega)).trans ?_
  cases fnd R.sn w R.T.nS 0 with
  | some s => rfl
  | none =>
    show ((fX7_guestNamed 215 (lN (pkw 32 w)) m).bind fun q1 => if q1 < 0 then some false else some true) = _
    rw [c_guestNamed hw h]
    cases e2 : fnd R.gn w R.T.nG 0 with
    | none => rfl
    | some g =>
      have := fnd_lt e2
      show ((some (nI g)).bind fun q1 => if q1 < 0 then some false else some true) = _
      rw [bind_s, if_neg (show ¬ nI g < 0 by rw [L_0]; exact nI_nlt (by omega) (by omega))]
      rfl
/-- a late fault or none: the state goes on -/
theorem c_late {K V : Nat → Nat} {N : Nat → List Nat} {P : Nat → Nat} {R : Rd} {m : Mem} {t e f : Nat} (h : cRd K V N P R m (t + 1) e) (hf : 1 ≤ f ∧ f ≤ 5) : ∃ m', fX4_keepLate (nI f) (nI t) m = some m' ∧ cRd K V N P (setLt R (late R.lt true f t)) m' (t + 1) e := by
  obtain ⟨g1, g2, g3, g4, g5, g6⟩ := h.ps
  obtain ⟨m', x1, x2, x3, x4⟩ := c_keepLate h.lt hf (by omega) (g1 t (by omega) (fun j hj => g4 j (by omega))).2.1
  refine ⟨m', x1, h.k (fun a j a1 a2 => ⟨x3 a j (by omega), x4 a j⟩) ⟨g1.fr (fun a j a1 a2 => ⟨x3 a j (by omega), x4 a j⟩), by rw [x3 _ _ (by omega)]; exact g2, g3, g4, by rw [x3 _ _ (by omega)]; exact g5, g6⟩ x2⟩
theorem late_no (l : Option (Nat × Nat)) (f t : Nat) : late l false f t = l := by cases l <;> rfl
theorem setLt_id (R : Rd) : setLt R R.lt = R := rfl
theorem c_tkI {K V : Nat → Nat} {N : Nat → List Nat} {P : Nat → Nat} {R : Rd} {m : Mem} {t e a b : Nat} (hK : ∀ t, K t < 34) (hV : ∀ t, V t < 2 ^ 31) (ha : a < 2 ^ 31) (hb : b < 2 ^ 31) (h : cRd K V N P R m t e) : cR (intP K V a b R t) (fX4_takeInt (nI a) (nI b) m) (fun R' t' m' => R' = setLt R (late R.lt (!inR a b (V t)) 5 t) ∧ t' = t + 1 ∧ t < 400 ∧ K t = 3 ∧ cRd K V N P R' m' (t + 1) e) := by
  unfold intP fX4_takeInt
  refine cB (c_tkD (k := 3) hK (by omega) h) (fun _ => if_neg Bool.false_ne_true) (fun _ => if_pos rfl) ?_
  rintro u t1 m1 - ⟨rfl, lt, k3, -, s1⟩
  have vt := hV t
  have ib := c_intB s1.ps (d := 1) (by omega) (by omega) (by rw [Nat.add_sub_cancel]; exact k3)
  rw [Nat.add_sub_cancel] at ib
  have pos : m1.1 3 3 - 1 = nI t := by
    rw [s1.ps.2.1]
    exact nI_back (a := t + 1) (b := 1) (by omega)
  refine ⟨fun R' t' z => ?_, fun f t' z => (by cases z)⟩
  cases z
  rw [show fX4_intBehind 1 (true, m1).2 = some (nI (V t)) from ib, bind_s]
  obtain ⟨m2, x1, x2⟩ := c_late (f := 5) s1 (by omega)
  have kl : fX4_keepLate 5 ((true, m1).2.1 3 3 - 1) (true, m1).2 = some m2 := by
    show fX4_keepLate (nI 5) (m1.1 3 3 - 1) m1 = some m2
    rw [pos]; exact x1
  by_cases c1 : V t < a
  · have i0 : inR a b (V t) = false := by unfold inR; rw [decide_eq_false (by omega)]; rfl
    rw [if_pos (nI_lt c1 ha), kl, bind_s, i0]
    exact ⟨m2, rfl, rfl, rfl, lt, k3, x2⟩
  · rw [if_neg (nI_nlt (by omega) vt)]
    by_cases c2 : b < V t
    · have i0 : inR a b (V t) = false := by unfold inR; rw [decide_eq_false (show ¬ V t ≤ b by omega), Bool.and_false]
      rw [if_pos (nI_lt c2 vt), kl, bind_s, i0]
      exact ⟨m2, rfl, rfl, rfl, lt, k3, x2⟩
    · have i0 : inR a b (V t) = true := by unfold inR; rw [decide_eq_true (show a ≤ V t by omega), decide_eq_true (show V t ≤ b by omega)]; rfl
      rw [if_neg (nI_nlt (by omega) hb), i0, Bool.not_true, late_no, setLt_id]
      exact ⟨m1, rfl, rfl, rfl, lt, k3, s1⟩
theorem c_tkN {K V : Nat → Nat} {N : Nat → List Nat} {P : Nat → Nat} {R : Rd} {m : Mem} {t e : Nat} (hK : ∀ t, K t < 34) (hN : ∀ t, K t = 2 → ltOk (N t)) (h : cRd K V N P R m t e) : cR (nameP K N R t) (fX4_takeNewName 215 m) (fun R' t' m' => R' = setLt R (late R.lt (nmd R (N t)) 3 t) ∧ t' = t + 1 ∧ t < 400 ∧ K t = 2 ∧ cRd K V N P R' m' (t + 1) e) := by
  unfold nameP fX4_takeNewName
  refine cB (c_tkD (k := 2) hK (by omega) h) (fun _ => if_neg Bool.false_ne_true) (fun _ => if_pos rfl) ?_
  rintro u t1 m1 - ⟨rfl, lt, k2, -, s1⟩
  obtain ⟨g1, g2, g3, g4, g5, g6⟩ := s1.ps
  have nm := (g1 t (by omega) (fun j hj => g4 j (by omega))).2.2.2 k2
  have pos : m1.1 3 3 - 1 = nI t := by
    rw [g2]
    exact nI_back (a := t + 1) (b := 1) (by omega)
  refine ⟨fun R' t' z => ?_, fun f t' z => (by cases z)⟩
  cases z
  show ∃ m', (if inb (m1.1 3 3 - 1) 402 then (fX7_isNamed 215 (m1.2 7 (m1.1 3 3 - 1).toNatClampNeg) m1).bind fun q2 => if q2 = true then (fX4_keepLate 3 (m1.1 3 3 - 1) m1).bind fun q3 => some (true, q3) else some (true, m1) else none) = some (true, m') ∧ _
  rw [pos, if_pos (inbN (by omega) (by omega)), nI_clamp (by omega), nm, c_isNamed (hN t k2) s1, bind_s]
  obtain ⟨m2, x1, x2⟩ := c_late (f := 3) s1 (by omega)
  cases c : nmd R (N t) with
  | true =>
    rw [if_pos rfl, show fX4_keepLate 3 (nI t) m1 = some m2 from x1, bind_s]
    exact ⟨m2, rfl, rfl, rfl, lt, k2, x2⟩
  | false =>
    rw [if_neg Bool.false_ne_true, late_no, setLt_id]
    exact ⟨m1, rfl, rfl, rfl, lt, k2, s1⟩
