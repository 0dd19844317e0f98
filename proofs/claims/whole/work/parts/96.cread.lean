/-! ===== the component reads its tape ===== -/
def tW (b : Nat → Nat) (n t : Nat) : Nat := if tK b n t = 3 then tV b n t else 0
theorem tK_34 {b : Nat → Nat} {n : Nat} (hb : ∀ j, b j < 256) (t : Nat) : tK b n t < 34 := by
  unfold tK tkK
  have s1 := (sgN_r (b (tS b n t)) (hb _)).2.1
  have w2 := (wkd_2 (ltL b (tS b n t) (leB b n (tS b n t) - tS b n t))).2.1
  split
  · split
    · split <;> omega
    · split
      · split <;> omega
      · omega
  · omega
theorem tK_2 {b : Nat → Nat} {n t : Nat} (hb : ∀ j, b j < 256) (h : tK b n t = 2) : isLtN (b (tS b n t)) = true ∧ ltOk (tN b n t) := by
  have s1 := (sgN_r (b (tS b n t)) (hb _)).2.2.2
  unfold tK tkK at h
  by_cases c : tS b n t < n
  · rw [if_pos c] at h
    by_cases d : isLtN (b (tS b n t)) = true
    · rw [if_pos d] at h
      by_cases e : 8 < leB b n (tS b n t) - tS b n t
      · rw [if_pos e] at h; omega
      · exact ⟨d, lt_ok hb (by omega)⟩
    · rw [if_neg d] at h
      by_cases e : isDgN (b (tS b n t)) = true
      · rw [if_pos e] at h
        split at h <;> omega
      · rw [if_neg e] at h; exact absurd h s1
  · rw [if_neg c] at h; omega
theorem tW_lt {b : Nat → Nat} {n : Nat} (hb : ∀ j, b j < 256) (t : Nat) : tW b n t < 10000 := by
  unfold tW
  by_cases h : tK b n t = 3
  · rw [if_pos h]
    have s1 := (sgN_r (b (tS b n t)) (hb _)).2.2.1
    have w2 := (wkd_2 (ltL b (tS b n t) (leB b n (tS b n t) - tS b n t))).2.2
    unfold tK tkK at h
    by_cases c : tS b n t < n
    · rw [if_pos c] at h
      by_cases d : isLtN (b (tS b n t)) = true
      · rw [if_pos d] at h
        by_cases e : 8 < leB b n (tS b n t) - tS b n t
        · rw [if_pos e] at h; omega
        · rw [if_neg e] at h; exact absurd h w2
      · rw [if_neg d] at h
        by_cases e : isDgN (b (tS b n t)) = true
        · rw [if_pos e] at h
          by_cases e2 : 4 < deB b n (tS b n t) - tS b n t
          · rw [if_pos e2] at h; omega
          · unfold tV
            have := dgV_lt (b := b) (i := tS b n t) (c := deB b n (tS b n t) - tS b n t) (fun j hj => (dig_all _ (hb _) (run_dg (b := b) (n := n) (i := tS b n t) (by omega) (by omega))).2)
            exact Nat.lt_of_lt_of_le this (Nat.pow_le_pow_right (by omega) (show deB b n (tS b n t) - tS b n t ≤ 4 by omega))
        · rw [if_neg e] at h; exact absurd h s1
    · rw [if_neg c] at h; omega
  · rw [if_neg h]; omega
theorem tS_mono {b : Nat → Nat} {n i j : Nat} (h : i < j) (k : ∀ x, x < j → 2 ≤ tK b n x) : tS b n i < tS b n j := by
  have := tS_lt (b := b) (n := n) (i := i) (k := j - i) (fun x hx => tK_pos (k x (by omega))) (by omega)
  rw [show i + (j - i) = j by omega] at this
  exact this
theorem cTK_of {b : Nat → Nat} {n : Nat} {m : Mem} (hb : ∀ j, b j < 256) (h : ∀ t, t ≤ 400 → (∀ j, j < t → 2 ≤ tK b n j) → cTok b n t m) : cTK (tK b n) (tW b n) (tN b n) (tS b n) m := by
  intro t ht hj
  obtain ⟨h1, h2, h3, h4⟩ := h t ht hj
  exact ⟨h1, h2, fun k => by rw [h3 k]; unfold tW; rw [if_pos k], fun k => h4 (by omega) (tK_2 hb k).1⟩
theorem okT_of {K V : Nat → Nat} {N : Nat → List Nat} {P : Nat → Nat} {R : Rd} {m : Mem} {t e : Nat} (h : cRd K V N P R m t e) (k : okRd R) (n : R.lt = none) : okT R.T :=
  ⟨h.s4, h.g7, k.su n, k.gu n, k.fs, k.fi n, fun g o z => (h.fg g o z).1, k.de n, k.se n, k.la, k.df⟩
theorem cRd.w3 {K V : Nat → Nat} {N : Nat → List Nat} {P : Nat → Nat} {R : Rd} {m : Mem} {t e j : Nat} {x : Int32} (h : cRd K V N P R m t e) (hj : j ≤ 1) : cRd K V N P R (wI m 3 j x) t e := by
  obtain ⟨g1, g2, g3, g4, g5, g6⟩ := h.ps
  have := h.k (l := R.lt) (m' := wI m 3 j x) (t' := t) (Sm.wI (by omega)) ⟨g1.fr (Sm.wI (by omega)), by rw [wI_i, if_neg (by omega)]; exact g2, g3, g4, by rw [wI_i, if_neg (by omega)]; exact g5, g6⟩ (by
    have := h.lt
    unfold cLt at this ⊢
    rw [wI_i, if_neg (by omega), wI_i, if_neg (by omega)]
    exact this)
  exact this
/-- what reading answers of a row of tokens -/
abbrev tapR (b : Nat → Nat) (n : Nat) : PR Rd := tapP (tK b n) (tW b n) (tN b n) 402 Rd0 0
theorem c_start {b : Nat → Nat} {n : Nat} {μ : Mem} (h : cTp b n μ) (ws : ∀ w, w < 21 → μ.2 8 w = lN (pkw 32 (wordL.getD w []))) : ∃ m, fX4_readTape 215 μ = fX4_readTape_37 215 (fun y9 μ10 => fX4_readTape_j68 215 y9 μ10) FU 1 0 m ∧ cRd (tK b n) (tW b n) (tN b n) (tS b n) Rd0 m 0 8 := by
  unfold fX4_readTape
  simp only [nm_ap]
  obtain ⟨m5, e5, a1, a2, a3, a4, a5, a6, a7⟩ := c_tbegin (wI (wI (wI (wI μ 3 0 0) 3 4 0) 3 5 (-1)) 3 3 0)
  have f5 : Fr (WX7_begin 215) (wI (wI (wI (wI μ 3 0 0) 3 4 0) 3 5 (-1)) 3 3 0) m5 := frX7_begin 215 _ _ e5
  have k5 : ∀ a j, a < 215 → m5.1 a j = (wI (wI (wI (wI μ 3 0 0) 3 4 0) 3 5 (-1)) 3 3 0).1 a j ∧ m5.2 a j = μ.2 a j := fun a j ha => f5 a j (by simp [WX7_begin, inW]; omega)
  obtain ⟨h1, h2, h3, h4⟩ := h
  have tp : cTp b n m5 := by
    refine ⟨?_, h2, h3, fun j hj => ?_⟩
    · rw [(k5 1 1 (by omega)).1, wI_i, if_neg (by omega), wI_i, if_neg (by omega), wI_i, if_neg (by omega), wI_i, if_neg (by omega)]; exact h1
    · rw [(k5 2 j (by omega)).1, wI_i, if_neg (by omega), wI_i, if_neg (by omega), wI_i, if_neg (by omega), wI_i, if_neg (by omega)]; exact h4 j hj
  obtain ⟨m6, e6, c6⟩ := c_cut tp (fun w hw => (k5 8 w (by omega)).2.trans (ws w hw))
  have f6 : Fr WX8_cut m5 m6 := frX8_cut _ _ e6
  have k6 : ∀ a j, ¬ (4 ≤ a ∧ a ≤ 7) → m6.1 a j = m5.1 a j := fun a j ha => (f6 a j (by simp [WX8_cut, inW]; omega)).1
  have k3 : ∀ j, m6.1 3 j = (wI (wI (wI (wI μ 3 0 0) 3 4 0) 3 5 (-1)) 3 3 0).1 3 j := fun j => (k6 3 j (by omega)).trans (k5 3 j (by omega)).1
  refine ⟨m6, by rw [e5, bind_s, e6, bind_s], ⟨cTK_of h3 c6, k3 3, by omega, fun j hj => by omega, by rw [k6 _ _ (by omega)]; exact a6, by omega⟩, by rw [k6 _ _ (by omega)]; exact a1, by show 0 ≤ 4; omega, by rw [k6 _ _ (by omega)]; exact a2, by show 0 ≤ 7; omega, by rw [k6 _ _ (by omega)]; exact a3, by show 0 ≤ 8; omega, by rw [k6 _ _ (by omega)]; exact a4, by rw [k6 _ _ (by omega)]; exact a5, fun s hs => absurd (show s < 0 from hs) (by omega), fun s hs => absurd (show s < 0 from hs) (by omega), fun g o z => absurd (show false = true from z) (by decide), fun k hk => ?_, ⟨k3 4, k3 5⟩⟩
  obtain ⟨p, b1, b2⟩ := a7 k hk
  exact ⟨p, by rw [k6 _ _ (by omega)]; exact b1, cLaw_ext b2 (fun x _ _ => ⟨k6 _ _ (by omega), k6 _ _ (by omega)⟩)⟩
theorem c_readTape {b : Nat → Nat} {n : Nat} {μ : Mem} (h : cTp b n μ) (ws : ∀ w, w < 21 → μ.2 8 w = lN (pkw 32 (wordL.getD w []))) :
    (∀ R t', tapR b n = .ok (R, t') → R.lt = none → okT R.T ∧ ∃ m, fX4_readTape 215 μ = some m ∧ m.1 3 0 = 0 ∧ m.1 3 1 = -1 ∧ cT 215 R.T m) ∧ (∀ R t' f s, tapR b n = .ok (R, t') → R.lt = some (f, s) → ∃ m, fX4_readTape 215 μ = some m ∧ m.1 3 0 = nI f ∧ m.1 3 1 = nI (tS b n s) ∧ 1 ≤ f ∧ f ≤ 5) ∧ (∀ g t', tapR b n = .error (g, t') → ∃ m, fX4_readTape 215 μ = some m ∧ m.1 3 0 = nI g ∧ m.1 3 1 = nI (tS b n t') ∧ (g = 1 ∨ g = 2)) := by
  have hb := h.2.2.1
  obtain ⟨m0, e0, s0⟩ := c_start h ws
  obtain ⟨q1, q2⟩ := c_tape37 (Kc := fun y9 μ10 => fX4_readTape_j68 215 y9 μ10) (tK_34 hb) (fun t => Nat.lt_trans (tW_lt hb t) (by omega)) (fun t z => (tK_2 hb z).2) 402 FU 0 Rd0 m0 0 8 (by omega) (by unfold FU; omega) (by omega) s0
  refine ⟨fun R t' z l => ?_, fun R t' f s z l => ?_, fun g t' z => ?_⟩
  · obtain ⟨m1, e1, x1, s1⟩ := q1 R t' z
    have oT := okT_of s1 (ok_tap ok_Rd0 z) l
    have lt := s1.lt
    rw [l] at lt
    have s2 : cRd (tK b n) (tW b n) (tN b n) (tS b n) R (wI (wI m1 3 0 0) 3 1 (-1)) t' e1 := (s1.w3 (by omega)).w3 (by omega)
    obtain ⟨m2, x2, f2, c2⟩ := c_text s2 oT
    have k : ∀ j, m2.1 3 j = (wI (wI m1 3 0 0) 3 1 (-1)).1 3 j := fun j => (f2 3 j (by simp [WF, WX7_findClashes, inW])).1
    refine ⟨oT, m2, ?_, k 0, k 1, c2⟩
    rw [e0, show fX4_readTape_37 215 (fun y9 μ10 => fX4_readTape_j68 215 y9 μ10) FU 1 0 m0 = fX4_readTape_j68 215 1 m1 from x1]
    unfold fX4_readTape_j68
    rw [if_neg (show ¬ (1 : Int32) = 0 by decide), lt.1, nm_ap, show (wI m1 3 0 0).1 3 5 = -1 from lt.2, nm_ap, if_pos (show (wI (wI m1 3 0 0) 3 1 (-1)).1 3 0 = 0 from rfl), x2, bind_s]
  · obtain ⟨m1, e1, x1, s1⟩ := q1 R t' z
    have lt := s1.lt
    rw [l] at lt
    obtain ⟨l1, l2, l3, l4⟩ := lt
    have ne : ¬ nI f = 0 := nI_ne0 (by omega) (by omega)
    refine ⟨wI (wI m1 3 0 (nI f)) 3 1 (nI (tS b n s)), ?_, rfl, rfl, l3, l4⟩
    rw [e0, show fX4_readTape_37 215 (fun y9 μ10 => fX4_readTape_j68 215 y9 μ10) FU 1 0 m0 = fX4_readTape_j68 215 1 m1 from x1]
    unfold fX4_readTape_j68
    rw [if_neg (show ¬ (1 : Int32) = 0 by decide), show m1.1 3 4 = nI f from l1, nm_ap, show (wI m1 3 0 (nI f)).1 3 5 = nI (tS b n s) from l2, nm_ap, if_neg (show ¬ (wI (wI m1 3 0 (nI f)) 3 1 (nI (tS b n s))).1 3 0 = 0 from ne)]
  · obtain ⟨m1, x1, x2, x3, x4, x5, x6⟩ := q2 g t' z
    have ne : ¬ nI g = 0 := nI_ne0 (by omega) (by omega)
    refine ⟨wI m1 3 1 (nI (tS b n t')), ?_, x2, rfl, x6⟩
    rw [e0, show fX4_readTape_37 215 (fun y9 μ10 => fX4_readTape_j68 215 y9 μ10) FU 1 0 m0 = fX4_readTape_j68 215 0 m1 from x1]
    unfold fX4_readTape_j68
    rw [if_pos rfl, x3, if_pos (inbN (by omega) (by omega)), nI_clamp (by omega), x4, nm_ap, if_neg (show ¬ (wI m1 3 1 (nI (tS b n t'))).1 3 0 = 0 from fun z => ne (x2.symm.trans z))]
