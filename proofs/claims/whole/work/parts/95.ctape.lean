/-! ===== the component: the whole row, and the reading of a tape ===== -/
theorem c_tape37 {K V : Nat → Nat} {N : Nat → List Nat} {P : Nat → Nat} {Kc : Int32 → Mem → Option Mem} (hK : ∀ t, K t < 34) (hV : ∀ t, V t < 2 ^ 31) (hN : ∀ t, K t = 2 → ltOk (N t)) : ∀ f n i R m t e, 400 < t + f → f < n → i ≤ t → cRd K V N P R m t e →
    (∀ R' t', tapP K V N f R t = .ok (R', t') → ∃ m' e', fX4_readTape_37 215 Kc n 1 (nI i) m = Kc 1 m' ∧ cRd K V N P R' m' t' e') ∧ (∀ g t', tapP K V N f R t = .error (g, t') → ∃ m', fX4_readTape_37 215 Kc n 1 (nI i) m = Kc 0 m' ∧ m'.1 3 0 = nI g ∧ m'.1 3 3 = nI t' ∧ m'.1 6 t' = nI (P t') ∧ t' ≤ 400 ∧ (g = 1 ∨ g = 2))
  | 0, n, i, R, m, t, e, h, _, _, s => absurd s.ps.2.2.1 (by omega)
  | f + 1, 0, i, R, m, t, e, _, h, _, _ => absurd h (by omega)
  | f + 1, n + 1, i, R, m, t, e, h, hn, hi, s => by
    have t4 := s.ps.2.2.1
    have kt := hK t
    rw [tapP, fX4_readTape_37, if_neg (show ¬ (400 : Int32) < nI i by rw [L_400]; exact nI_nlt (by omega) (by omega)), if_neg (show ¬ (1 : Int32) = 0 by decide), c_kind s.ps, bind_s]
    by_cases c : K t = 0
    · rw [if_pos c, if_pos (by rw [c]; rfl)]
      exact ⟨fun R' t' z => by cases z; exact ⟨m, e, rfl, s⟩, fun g t' z => by cases z⟩
    · rw [if_neg c, if_neg (show ¬ nI (K t) = 0 from fun z => c ((nI_eq (b := 0) (by omega) (by omega)).1 z))]
      obtain ⟨q1, q2⟩ := c_readTell hK hV hN s
      obtain ⟨ga, gl⟩ := gA_tel (K := K) (V := V) (N := N) (R := R) t4
      cases e1 : telP K V N R t with
      | error x =>
        obtain ⟨g0, t0⟩ := x
        obtain ⟨m', x1, x2, x3⟩ := q2 g0 t0 e1
        obtain ⟨y1, y2, y3, y4⟩ := ga.2 g0 t0 e1
        have fr : Fr (WX4_readTell 215) m m' := frX4_readTell 215 m _ x1
        rw [x1, bind_s]
        obtain ⟨k, rfl⟩ : ∃ k, n = k + 1 := ⟨n - 1, by omega⟩
        refine ⟨fun R' t' z => (by cases z), fun g t' z => ?_⟩
        cases z
        refine ⟨m', ?_, x2, x3, ?_, y2, y4⟩
        · show fX4_readTape_37 215 Kc (k + 1) 0 (nI i + 1) m' = Kc 0 m'
          rw [fX4_readTape_37]
          by_cases c4 : (400 : Int32) < nI i + 1
          · rw [if_pos c4]
          · rw [if_neg c4, if_pos rfl]
        · rw [(fr 6 _ (by simp [WX4_readTell, inW])).1]
          refine (s.ps.1 _ y2 (fun j hj => ?_)).2.1
          by_cases d : j < t
          · exact s.ps.2.2.2.1 j d
          · exact y3 j (by omega) hj
      | ok x =>
        obtain ⟨R1, t1⟩ := x
        obtain ⟨m1, x1, e', s1⟩ := q1 R1 t1 e1
        have lt := gl R1 t1 e1
        rw [x1, bind_s]
        show (∀ R' t', tapP K V N f R1 t1 = .ok (R', t') → ∃ m' e', fX4_readTape_37 215 Kc n 1 (nI i + 1) m1 = Kc 1 m' ∧ cRd K V N P R' m' t' e') ∧ (∀ g t', tapP K V N f R1 t1 = .error (g, t') → ∃ m', fX4_readTape_37 215 Kc n 1 (nI i + 1) m1 = Kc 0 m' ∧ m'.1 3 0 = nI g ∧ m'.1 3 3 = nI t' ∧ m'.1 6 t' = nI (P t') ∧ t' ≤ 400 ∧ (g = 1 ∨ g = 2))
        rw [nI_1]
        exact c_tape37 hK hV hN f n (i + 1) R1 m1 t1 e' (by omega) (by omega) (by omega) s1
/-! an empty text -/
theorem c_addE {m : Mem} {p : Nat} (a v : Int32) (hp : p < 408) (h : m.1 221 3 = nI p) : fX2_add 221 a v m = some (nI p, wI (wI (wI m 222 p a) 223 p v) 221 3 (nI (p + 1))) := by
  have bp : inb (nI p) 408 := inbN (by omega) (by omega)
  have cp : (nI p).toNatClampNeg = p := nI_clamp (by omega)
  have e1 : (wI m 222 p a).1 221 3 = nI p := by rw [wI_i, if_neg (by omega)]; exact h
  have e2 : (wI (wI m 222 p a) 223 p v).1 221 3 = nI p := by rw [wI_i, if_neg (by omega)]; exact e1
  have e3 : (wI (wI (wI m 222 p a) 223 p v) 221 3 (nI (p + 1))).1 221 3 = nI (p + 1) := by rw [wI_i, if_pos ⟨rfl, rfl⟩]
  unfold fX2_add
  rw [h, if_pos (c_lt L_408 hp (by omega))]
  simp only [if_pos bp, cp, nm_ap, show 221 + 1 = 222 from rfl, show 221 + 2 = 223 from rfl, e1, e2, nI_1, e3, nI_pred]
theorem c_short {m : Mem} {k p : Nat} (a v : Int32) (hk : k < 4) (hp : p + 2 ≤ 408) (h : m.1 221 3 = nI p) : ∃ m', fX2_addShortLaw 221 (nI k) a v m = some m' ∧ m'.1 221 3 = nI (p + 2) ∧ m'.1 224 k = nI p ∧ m'.1 222 p = a ∧ m'.1 223 p = v ∧ m'.1 222 (p + 1) = 0 ∧ (∀ j, j ≠ k → m'.1 224 j = m.1 224 j) ∧ (∀ x, x < p → m'.1 222 x = m.1 222 x ∧ m'.1 223 x = m.1 223 x) := by
  unfold fX2_addShortLaw
  rw [c_startLaw hk h, bind_s, c_addE (p := p) a v (by omega) (by rw [wI_i, if_neg (by omega)]; exact h), bind_s]
  rw [c_addE (m := (nI p, wI (wI (wI (wI m 224 k (nI p)) 222 p a) 223 p v) 221 3 (nI (p + 1))).2) (p := p + 1) 0 0 (by omega) rfl, bind_s]
  refine ⟨_, rfl, ?_, ?_, ?_, ?_, ?_, fun j hj => ?_, fun x hx => ⟨?_, ?_⟩⟩
  · rw [wI_i, if_pos ⟨rfl, rfl⟩]
  · rw [wI_i, if_neg (by omega), wI_i, if_neg (by omega), wI_i, if_neg (by omega), wI_i, if_neg (by omega), wI_i, if_neg (by omega), wI_i, if_neg (by omega), wI_i, if_pos ⟨rfl, rfl⟩]
  · rw [wI_i, if_neg (by omega), wI_i, if_neg (by omega), wI_i, if_neg (by omega), wI_i, if_neg (by omega), wI_i, if_neg (by omega), wI_i, if_pos ⟨rfl, rfl⟩]
  · rw [wI_i, if_neg (by omega), wI_i, if_neg (by omega), wI_i, if_neg (by omega), wI_i, if_neg (by omega), wI_i, if_pos ⟨rfl, rfl⟩]
  · rw [wI_i, if_neg (by omega), wI_i, if_neg (by omega), wI_i, if_pos ⟨rfl, rfl⟩]
  · rw [wI_i, if_neg (by omega), wI_i, if_neg (by omega), wI_i, if_neg (by omega), wI_i, if_neg (by omega), wI_i, if_neg (by omega), wI_i, if_neg (by omega), wI_i, if_neg (by omega)]
  · rw [wI_i, if_neg (by omega), wI_i, if_neg (by omega), wI_i, if_neg (by omega), wI_i, if_neg (by omega), wI_i, if_neg (by omega), wI_i, if_neg (by omega), wI_i, if_neg (by omega)]
  · rw [wI_i, if_neg (by omega), wI_i, if_neg (by omega), wI_i, if_neg (by omega), wI_i, if_neg (by omega), wI_i, if_neg (by omega), wI_i, if_neg (by omega), wI_i, if_neg (by omega)]
theorem c_lbegin (m : Mem) : ∃ m', fX2_begin 221 m = some m' ∧ m'.1 221 3 = nI 8 ∧ cLs Rd0.T m' 8 := by
  unfold fX2_begin
  rw [nm_ap]
  obtain ⟨m1, e1, a1, a2, a3, a4, a5, a6, a7⟩ := c_short (m := wI m 221 3 0) (k := 0) (p := 0) 13 0 (by omega) (by omega) (by rw [wI_i, if_pos ⟨rfl, rfl⟩]; rfl)
  rw [show fX2_addShortLaw 221 0 13 0 (wI m 221 3 0) = some m1 from e1, bind_s]
  obtain ⟨m2, e2, b1, b2, b3, b4, b5, b6, b7⟩ := c_short (m := m1) (k := 1) (p := 2) 13 1 (by omega) (by omega) a1
  rw [show fX2_addShortLaw 221 1 13 1 m1 = some m2 from e2, bind_s]
  obtain ⟨m3, e3, c1, c2, c3, c4, c5, c6, c7⟩ := c_short (m := m2) (k := 2) (p := 4) 3 1 (by omega) (by omega) b1
  rw [show fX2_addShortLaw 221 2 3 1 m2 = some m3 from e3, bind_s]
  obtain ⟨m4, e4, d1, d2, d3, d4, d5, d6, d7⟩ := c_short (m := m3) (k := 3) (p := 6) 13 5 (by omega) (by omega) c1
  rw [show fX2_addShortLaw 221 3 13 5 m3 = some m4 from e4, bind_s]
  refine ⟨m4, rfl, d1, fun k hk => ?_⟩
  show ∃ p, m4.1 224 k = nI p ∧ cLaw m4 221 (dfl k).2 p (dfl k).1 8
  rcases (show k = 0 ∨ k = 1 ∨ k = 2 ∨ k = 3 by omega) with rfl | rfl | rfl | rfl
  · refine ⟨0, by rw [d6 _ (by omega), c6 _ (by omega), b6 _ (by omega)]; exact a2, ⟨?_, fun _ => ?_, trivial⟩, ?_, by show 0 + 1 < 8; omega⟩
    · show m4.1 222 0 = 13
      rw [(d7 _ (by omega)).1, (c7 _ (by omega)).1, (b7 _ (by omega)).1]; exact a3
    · show m4.1 223 0 = 0
      rw [(d7 _ (by omega)).2, (c7 _ (by omega)).2, (b7 _ (by omega)).2]; exact a4
    · show m4.1 222 1 = 0
      rw [(d7 _ (by omega)).1, (c7 _ (by omega)).1, (b7 _ (by omega)).1]; exact a5
  · refine ⟨2, by rw [d6 _ (by omega), c6 _ (by omega)]; exact b2, ⟨?_, fun _ => ?_, trivial⟩, ?_, by show 2 + 1 < 8; omega⟩
    · show m4.1 222 2 = 13
      rw [(d7 _ (by omega)).1, (c7 _ (by omega)).1]; exact b3
    · show m4.1 223 2 = 1
      rw [(d7 _ (by omega)).2, (c7 _ (by omega)).2]; exact b4
    · show m4.1 222 3 = 0
      rw [(d7 _ (by omega)).1, (c7 _ (by omega)).1]; exact b5
  · refine ⟨4, by rw [d6 _ (by omega)]; exact c2, ⟨?_, fun _ => ?_, trivial⟩, ?_, by show 4 + 1 < 8; omega⟩
    · show m4.1 222 4 = 3
      rw [(d7 _ (by omega)).1]; exact c3
    · show m4.1 223 4 = 1
      rw [(d7 _ (by omega)).2]; exact c4
    · show m4.1 222 5 = 0
      rw [(d7 _ (by omega)).1]; exact c5
  · exact ⟨6, d2, ⟨d3, fun _ => d4, trivial⟩, d5, by show 6 + 1 < 8; omega⟩
theorem c_tbegin (m : Mem) : ∃ m', fX7_begin 215 m = some m' ∧ m'.1 215 0 = 0 ∧ m'.1 215 3 = 0 ∧ m'.1 215 7 = 0 ∧ m'.1 215 8 = 100 ∧ m'.1 215 9 = 0 ∧ m'.1 221 3 = nI 8 ∧ cLs Rd0.T m' 8 := by
  unfold fX7_begin
  simp only [nm_ap]
  obtain ⟨m', e, h1, h2⟩ := c_lbegin (wI (wI (wI (wI (wI m 215 0 0) 215 3 0) 215 7 0) 215 8 100) 215 9 0)
  have f : Fr (WX2_begin 221) (wI (wI (wI (wI (wI m 215 0 0) 215 3 0) 215 7 0) 215 8 100) 215 9 0) m' := frX2_begin 221 _ _ e
  have k : ∀ j, m'.1 215 j = (wI (wI (wI (wI (wI m 215 0 0) 215 3 0) 215 7 0) 215 8 100) 215 9 0).1 215 j := fun j => (f 215 j (by simp [WX2_begin, inW])).1
  rw [show fX2_begin (215 + 6) (wI (wI (wI (wI (wI m 215 0 0) 215 3 0) 215 7 0) 215 8 100) 215 9 0) = some m' from e, bind_s]
  exact ⟨m', rfl, k 0, k 3, k 7, k 8, k 9, h1, h2⟩
