/-! ===== the component: a guest told ===== -/
theorem bs_no {p : Nat → Bool} (h : ∀ o, p o = false) : bs p 7 = 0 := by
  have e : p = fun _ => false := funext h
  rw [e]
  decide
abbrev mG (m : Mem) (n : Nat) (w : Int64) (x y z : Int32) : Mem := wI (wI (wI (wI (wI (wJ m 230 n w) 218 n x) 219 n y) 220 n z) 228 n 0) 215 3 (nI (n + 1))
theorem mG_k {m : Mem} {n : Nat} {w : Int64} {x y z : Int32} : ∀ a j, ¬ (a = 218 ∨ a = 219 ∨ a = 220 ∨ a = 228 ∨ (a = 215 ∧ j = 3)) → (mG m n w x y z).1 a j = m.1 a j := by
  intro a j ha
  rw [wI_i, if_neg (by omega), wI_i, if_neg (by omega), wI_i, if_neg (by omega), wI_i, if_neg (by omega), wI_i, if_neg (by omega)]
  rfl
theorem mG_o {m : Mem} {n : Nat} {w : Int64} {x y z : Int32} : ∀ a j, j ≠ n → a ≠ 215 → (mG m n w x y z).1 a j = m.1 a j := by
  intro a j ha hb
  rw [wI_i, if_neg (by omega), wI_i, if_neg (by omega), wI_i, if_neg (by omega), wI_i, if_neg (by omega), wI_i, if_neg (by omega)]
  rfl
theorem mG_n {m : Mem} {n : Nat} {w : Int64} {x y z : Int32} : (mG m n w x y z).1 218 n = x ∧ (mG m n w x y z).1 219 n = y ∧ (mG m n w x y z).1 220 n = z ∧ (mG m n w x y z).1 228 n = 0 ∧ (mG m n w x y z).1 215 3 = nI (n + 1) ∧ (mG m n w x y z).2 230 n = w := by
  refine ⟨?_, ?_, ?_, ?_, ?_, ?_⟩
  · rw [wI_i, if_neg (by omega), wI_i, if_neg (by omega), wI_i, if_neg (by omega), wI_i, if_neg (by omega), wI_i, if_pos ⟨rfl, rfl⟩]
  · rw [wI_i, if_neg (by omega), wI_i, if_neg (by omega), wI_i, if_neg (by omega), wI_i, if_pos ⟨rfl, rfl⟩]
  · rw [wI_i, if_neg (by omega), wI_i, if_neg (by omega), wI_i, if_pos ⟨rfl, rfl⟩]
  · rw [wI_i, if_neg (by omega), wI_i, if_pos ⟨rfl, rfl⟩]
  · rw [wI_i, if_pos ⟨rfl, rfl⟩]
  · rw [wI_l, wI_l, wI_l, wI_l, wI_l, wJ_l, if_pos ⟨rfl, rfl⟩]
theorem mG_l {m : Mem} {n : Nat} {w : Int64} {x y z : Int32} : ∀ a j, ¬ (a = 230 ∧ j = n) → (mG m n w x y z).2 a j = m.2 a j := by
  intro a j ha
  rw [wI_l, wI_l, wI_l, wI_l, wI_l, wJ_l, if_neg ha]
theorem c_addGr {m : Mem} {n : Nat} {w : Int64} {x y z : Int32} (hn : m.1 215 3 = nI n) (h7 : n < 7) : fX7_addGuest 215 w x y z m = some (mG m n w x y z) := by
  have bi : inb (nI n) 7 := inbN h7 (by omega)
  have ci : (nI n).toNatClampNeg = n := nI_clamp (by omega)
  have e1 : (wJ m 230 n w).1 215 3 = nI n := hn
  have e2 : (wI (wJ m 230 n w) 218 n x).1 215 3 = nI n := by rw [wI_i, if_neg (by omega)]; exact e1
  have e3 : (wI (wI (wJ m 230 n w) 218 n x) 219 n y).1 215 3 = nI n := by rw [wI_i, if_neg (by omega)]; exact e2
  have e4 : (wI (wI (wI (wJ m 230 n w) 218 n x) 219 n y) 220 n z).1 215 3 = nI n := by rw [wI_i, if_neg (by omega)]; exact e3
  have e5 : (wI (wI (wI (wI (wJ m 230 n w) 218 n x) 219 n y) 220 n z) 228 n 0).1 215 3 = nI n := by rw [wI_i, if_neg (by omega)]; exact e4
  unfold fX7_addGuest
  simp only [hn, if_pos bi, ci, nm_ap, show (215 : Nat) + 15 = 230 from rfl, show (215 : Nat) + 3 = 218 from rfl, show (215 : Nat) + 4 = 219 from rfl, show (215 : Nat) + 5 = 220 from rfl, show (215 : Nat) + 13 = 228 from rfl, e1, e2, e3, e4, e5, nI_1]
  rw [if_pos (show nI n < 7 by rw [show (7 : Int32) = nI 7 from rfl]; exact nI_lt h7 (by omega))]
theorem c_addG {K V : Nat → Nat} {N : Nat → List Nat} {P : Nat → Nat} {R : Rd} {m : Mem} {t e : Nat} {w : List Nat} {x y z : Nat} (h : cRd K V N P R m t e) (hw : ltOk w) (h7 : R.T.nG < 7) : ∃ m', fX7_addGuest 215 (lN (pkw 32 w)) (nI x) (nI y) (nI z) m = some m' ∧ cRd K V N P (addG R w x y z) m' t e := by
  refine ⟨_, c_addGr h.nG h7, ?_⟩
  have kp := mG_k (m := m) (n := R.T.nG) (w := lN (pkw 32 w)) (x := nI x) (y := nI y) (z := nI z)
  have ko := mG_o (m := m) (n := R.T.nG) (w := lN (pkw 32 w)) (x := nI x) (y := nI y) (z := nI z)
  have kl := mG_l (m := m) (n := R.T.nG) (w := lN (pkw 32 w)) (x := nI x) (y := nI y) (z := nI z)
  obtain ⟨n1, n2, n3, n4, n5, n6⟩ := mG_n (m := m) (n := R.T.nG) (w := lN (pkw 32 w)) (x := nI x) (y := nI y) (z := nI z)
  generalize mG m R.T.nG (lN (pkw 32 w)) (nI x) (nI y) (nI z) = m' at kp ko kl n1 n2 n3 n4 n5 n6
  obtain ⟨g1, g2, g3, g4, g5, g6⟩ := h.ps
  refine ⟨⟨g1.fr (fun a j a1 a2 => ⟨kp a j (by omega), kl a j (by omega)⟩), by rw [kp _ _ (by omega)]; exact g2, g3, g4, by rw [kp _ _ (by omega)]; exact g5, g6⟩, by rw [kp _ _ (by omega)]; exact h.nS, h.s4, n5, h7, by rw [kp _ _ (by omega)]; exact h.nf, h.f8, by rw [kp _ _ (by omega)]; exact h.de, by rw [kp _ _ (by omega)]; exact h.se, ?_, ?_, ?_, ?_, ?_⟩
  · intro s hs
    have := h.lo s hs
    show m'.1 216 s = nI (R.T.lo s) ∧ m'.1 217 s = nI (R.T.wo s) ∧ m'.2 229 s = lN (pkw 32 (R.sn s)) ∧ ltOk (R.sn s)
    rw [kp _ _ (by omega), kp _ _ (by omega), kl _ _ (by omega)]
    exact this
  · intro g hg
    have hg2 : g < R.T.nG + 1 := hg
    show m'.1 218 g = nI (if g = R.T.nG then x else R.T.hr g) ∧ m'.1 219 g = nI (if g = R.T.nG then y else R.T.hs g) ∧ m'.1 220 g = nI (if g = R.T.nG then z else R.T.fe g) ∧ m'.1 228 g = nI (bs (R.T.fo g) 7) ∧ m'.2 230 g = lN (pkw 32 (if g = R.T.nG then w else R.gn g)) ∧ ltOk (if g = R.T.nG then w else R.gn g)
    by_cases c : g = R.T.nG
    · rw [if_pos c, if_pos c, if_pos c, if_pos c, c, bs_no (p := R.T.fo R.T.nG) (fun o => by
        cases q : R.T.fo R.T.nG o with
        | false => rfl
        | true => have := (h.fg _ _ q).1; omega)]
      exact ⟨n1, n2, n3, n4, n6, hw⟩
    · have := h.gu g (by omega)
      rw [if_neg c, if_neg c, if_neg c, if_neg c, ko _ _ c (by omega), ko _ _ c (by omega), ko _ _ c (by omega), ko _ _ c (by omega), kl _ _ (by omega)]
      exact this
  · intro g o q
    have := h.fg g o q
    show g < R.T.nG + 1 ∧ o < R.T.nG + 1
    omega
  · intro j hj
    obtain ⟨p0, a1, a2⟩ := h.la j hj
    exact ⟨p0, by rw [kp _ _ (by omega)]; exact a1, cLaw_ext a2 (fun z _ _ => ⟨kp _ _ (by omega), kp _ _ (by omega)⟩)⟩
  · have := h.lt
    show cLt P R.lt m'
    unfold cLt at this ⊢
    rw [kp 3 4 (by omega), kp 3 5 (by omega)]
    exact this
theorem c_readGuest {K V : Nat → Nat} {N : Nat → List Nat} {P : Nat → Nat} {R : Rd} {m : Mem} {t e : Nat} (hK : ∀ t, K t < 34) (hV : ∀ t, V t < 2 ^ 31) (hN : ∀ t, K t = 2 → ltOk (N t)) (h : cRd K V N P R m t e) : cR (gueP K V N R t) (fX4_readGuest 215 m) (fun R' t' m' => cRd K V N P R' m' t' e) := by
  have g7 := h.g7
  unfold gueP fX4_readGuest
  by_cases c4 : R.T.nG < 7
  · rw [if_pos c4, h.nG, if_pos (show nI R.T.nG < 7 by rw [show (7 : Int32) = nI 7 from rfl]; exact nI_lt c4 (by omega))]
    refine cB (c_tkD (k := 14) hK (by omega) h) (fun _ => if_neg Bool.false_ne_true) (fun _ => if_pos rfl) ?_
    rintro u1 t1 m1 - ⟨rfl, l1, k1, -, s1⟩
    refine cB (c_tkN hK hN s1) (fun _ => if_neg Bool.false_ne_true) (fun _ => if_pos rfl) ?_
    rintro R1 t2 m2 - ⟨rfl, rfl, l2, k2, s2⟩
    refine cB (c_tkI (a := 0) (b := 23) hK hV (by omega) (by omega) s2) (fun _ => if_neg Bool.false_ne_true) (fun _ => if_pos rfl) ?_
    rintro R2 t3 m3 - ⟨rfl, rfl, l3, k3, s3⟩
    refine cB (c_tkI (a := 1) (b := 12) hK hV (by omega) (by omega) s3) (fun _ => if_neg Bool.false_ne_true) (fun _ => if_pos rfl) ?_
    rintro R3 t4 m4 - ⟨rfl, rfl, l4, k4, s4⟩
    refine cB (c_tkI (a := 0) (b := 99) hK hV (by omega) (by omega) s4) (fun _ => if_neg Bool.false_ne_true) (fun _ => if_pos rfl) ?_
    rintro R4 t5 m5 - ⟨rfl, rfl, l5, k5, s5⟩
    refine cB (c_tkD (k := 4) hK (by omega) s5) (fun _ => if_neg Bool.false_ne_true) (fun _ => if_pos rfl) ?_
    rintro u6 t6 m6 - ⟨rfl, l6, k6, -, s6⟩
    obtain ⟨g1, g2, g3, g4, g5, g6⟩ := s6.ps
    have e5 : t + 1 + 1 + 1 + 1 + 1 + 1 - 5 = t + 1 := by omega
    have e4 : t + 1 + 1 + 1 + 1 + 1 + 1 - 4 = t + 1 + 1 := by omega
    have e3 : t + 1 + 1 + 1 + 1 + 1 + 1 - 3 = t + 1 + 1 + 1 := by omega
    have e2 : t + 1 + 1 + 1 + 1 + 1 + 1 - 2 = t + 1 + 1 + 1 + 1 := by omega
    have nmw := (g1 (t + 1) (by omega) (fun j hj => g4 j (by omega))).2.2.2 k2
    have b4 := c_intB s6.ps (d := 4) (by omega) (by omega) (by rw [e4]; exact k3)
    have b3 := c_intB s6.ps (d := 3) (by omega) (by omega) (by rw [e3]; exact k4)
    have b2 := c_intB s6.ps (d := 2) (by omega) (by omega) (by rw [e2]; exact k5)
    have pos : m6.1 3 3 - 5 = nI (t + 1) := by
      rw [g2, ← e5]
      exact nI_back (a := t + 1 + 1 + 1 + 1 + 1 + 1) (b := 5) (by omega)
    refine ⟨fun R' t' z => ?_, fun f t' z => (by cases z)⟩
    cases z
    show ∃ m', (if inb (m6.1 3 3 - 5) 402 then (fX4_intBehind 4 m6).bind fun q7 => (fX4_intBehind 3 m6).bind fun q8 => (fX4_intBehind 2 m6).bind fun q9 => (fX7_addGuest 215 (m6.2 7 (m6.1 3 3 - 5).toNatClampNeg) q7 q8 q9 m6).bind fun q10 => some (true, q10) else none) = some (true, m') ∧ _
    obtain ⟨m7, x1, x2⟩ := c_addG (x := V (t + 1 + 1 + 1 + 1 + 1 + 1 - 4)) (y := V (t + 1 + 1 + 1 + 1 + 1 + 1 - 3)) (z := V (t + 1 + 1 + 1 + 1 + 1 + 1 - 2)) s6 (hN _ k2) c4
    rw [pos, if_pos (inbN (by omega) (by omega)), nI_clamp (by omega), nmw, show fX4_intBehind 4 m6 = _ from b4, bind_s, show fX4_intBehind 3 m6 = _ from b3, bind_s, show fX4_intBehind 2 m6 = _ from b2, bind_s, x1, bind_s]
    refine ⟨m7, rfl, ?_⟩
    rw [e5]
    exact x2
  · rw [if_neg c4, h.nG, if_neg (show ¬ nI R.T.nG < 7 by rw [show (7 : Int32) = nI 7 from rfl]; exact nI_nlt (by omega) (by omega))]
    refine ⟨fun a t' z => (by cases z), fun f t' z => ?_⟩
    cases z
    unfold fX4_fail
    rw [nm_ap, bind_s]
    exact ⟨_, rfl, by rw [wI_i, if_pos ⟨rfl, rfl⟩]; rfl, by rw [wI_i, if_neg (by omega)]; exact h.ps.2.1⟩
