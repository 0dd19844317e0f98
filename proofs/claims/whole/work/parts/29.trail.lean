/-! ===== one thing more on the trail ===== -/
def pushK (k : Nat) : Nat := min 40 (k + 1)
def pushH (k : Nat) (hi : Nat → St) (S : St) : Nat → St := fun i => if k < 40 then (if i = k then S else hi i) else (if i = 39 then S else hi (i + 1))
theorem mnI_nI {a b : Nat} (ha : a < 2 ^ 31) (hb : b < 2 ^ 31) : mnI (nI a) (nI b) = nI (min a b) := by
  unfold mnI
  by_cases h : b < a
  · rw [if_pos ((nI_ltI hb ha).2 h), Nat.min_eq_right (by omega)]
  · rw [if_neg (fun q => h ((nI_ltI hb ha).1 q)), Nat.min_eq_left (by omega)]
theorem mxI_nI {a b : Nat} (ha : a < 2 ^ 31) (hb : b < 2 ^ 31) : mxI (nI a) (nI b) = nI (max a b) := by
  unfold mxI
  by_cases h : a < b
  · rw [if_pos ((nI_ltI ha hb).2 h), Nat.max_eq_right (by omega)]
  · rw [if_neg (fun q => h ((nI_ltI ha hb).1 q)), Nat.max_eq_left (by omega)]
theorem keepC {A : Abs} {μ : Mem} (hc : CInv A μ) (hk : A.k ≤ 40) : ∃ m, fX9_keep 9 μ = some m ∧ CInv (Abs.mk A.T A.S (pushK A.k) (pushH A.k A.hi A.S) A.he A.cl A.ch A.ct A.tn A.tb A.pl A.lv) m := by
  obtain ⟨p, hp, hp2, hp3⟩ := hc.hi
  obtain ⟨m1, e1, c1, f1⟩ := copyFrom_full (t0 := 19 + 4 * p) (t1 := 9) (by omega) hc.S
  have q1 : fX9_keep 9 μ = some (wI (wI m1 17 2 (nI ((p + 1) % 40))) 17 0 (nI (pushK A.k))) := by
    unfold fX9_keep
    have ek : (wI m1 17 2 (nI ((p + 1) % 40))).1 17 0 = nI A.k := by rw [wI_i, if_neg (by omega), (f1 17 0 (by omega)).1]; exact hc.hn
    have en : m1.1 17 2 = nI p := by rw [(f1 17 2 (by omega)).1]; exact hp2
    have e40 : irm (nI p + 1) 40 = nI ((p + 1) % 40) := by
      unfold irm
      rw [L_40, nI_1, pk_rem (by omega) (by omega) (by omega)]
    rw [hp2, if_pos (inbN hp (by omega)), nI_clamp (by omega), e1, bind_s, en, e40, nm_ap, ek, nm_ap, nI_1, L_40, mnI_nI (by omega) (by omega)]
    rfl
  refine ⟨_, q1, ?_⟩
  have fr1 : Fr WX9_keep μ _ := frX9_keep 9 μ _ q1
  refine CInv.go hc (Ag.of fr1 (dj_of cPg_L (by decide))) ?_ ?_ ?_
  · exact hc.S.sm (smF 9 12 fr1 (by decide))
  · show (wI _ 17 0 _).1 17 0 = _
    rw [wI_i, if_pos ⟨rfl, rfl⟩]
  · refine ⟨(p + 1) % 40, Nat.mod_lt _ (by omega), ?_, ?_⟩
    · show (wI _ 17 0 _).1 17 2 = _
      rw [wI_i, if_neg (by omega), wI_i, if_pos ⟨rfl, rfl⟩]
    · intro i hi
      have hi' : i < pushK A.k := hi
      unfold pushK at hi' ⊢
      have old : ∀ z q S, q < 40 → q ≠ p → cS (19 + 4 * q) S μ → cS (19 + 4 * q) S (wI (wI m1 17 2 (nI ((p + 1) % 40))) 17 0 z) := by
        intro z q S hq hqp h
        refine h.sm (Sm.two (b := m1) ?_ (Sm.two (Sm.wI (by omega)) (Sm.wI (by omega))))
        intro a j k1 k2
        exact f1 a j (by omega)
      have new : ∀ z, cS (19 + 4 * p) A.S (wI (wI m1 17 2 (nI ((p + 1) % 40))) 17 0 z) := fun z => c1.sm (Sm.two (Sm.wI (by omega)) (Sm.wI (by omega)))
      show cS _ (pushH A.k A.hi A.S i) _
      unfold pushH
      by_cases h1 : A.k < 40
      · rw [if_pos h1]
        have hm : min 40 (A.k + 1) = A.k + 1 := by omega
        by_cases h2 : i = A.k
        · rw [if_pos h2, hm, show ((p + 1) % 40 + 40 - (A.k + 1) + i) % 40 = p by omega]; exact new _
        · rw [if_neg h2, hm, show ((p + 1) % 40 + 40 - (A.k + 1) + i) % 40 = (p + 40 - A.k + i) % 40 by omega]
          exact old _ _ _ (by omega) (by omega) (hp3 i (by omega))
      · rw [if_neg h1]
        have hk40 : A.k = 40 := by omega
        have hm : min 40 (A.k + 1) = 40 := by omega
        by_cases h2 : i = 39
        · rw [if_pos h2, hm, show ((p + 1) % 40 + 40 - 40 + i) % 40 = p by omega]; exact new _
        · rw [if_neg h2, hm, show ((p + 1) % 40 + 40 - 40 + i) % 40 = (p + 40 - A.k + (i + 1)) % 40 by omega]
          exact old _ _ _ (by omega) (by omega) (hp3 (i + 1) (by omega))
theorem keepsRow_eq (μ : Mem) : fX11_keepsRow μ = some (cp μ 276 0 277 0 31) := by
  unfold fX11_keepsRow
  rw [keepsRow_loop]
theorem recordsR {A : Abs} {μ : Mem} {S : St} (hr : RInv A μ) (hk : A.k ≤ 40) (hS : rS 277 0 S μ) : ∃ m, fX11_records μ = some m ∧ RInv (Abs.mk A.T S (pushK A.k) (pushH A.k A.hi A.S) A.he A.cl A.ch A.ct A.tn A.tb A.pl A.lv) m := by
  by_cases h40 : A.k = 40
  · have q1 : fX11_records μ = some (cp (wI (cp (wI (cp μ 280 0 280 31 1209) 243 56 (nI 39)) 280 (31 * 39) 276 0 31) 243 56 (nI 40)) 276 0 277 0 31) := by
      unfold fX11_records
      rw [hr.hn, h40, if_pos L_40.symm, rec11_loop, nm_ap]
      have e1 : (cp μ 280 0 280 31 1209).1 243 56 = nI (39 + 1) := by rw [cp_i, if_neg (by omega), hr.hn, h40]
      rw [e1, nI_pred, rec51_loop _ (u := 39) (by omega) (by rw [wI_i, if_pos ⟨rfl, rfl⟩]), nm_ap]
      rw [cp_i, if_neg (by omega), wI_i, if_pos ⟨rfl, rfl⟩, nI_1, keepsRow_eq, bind_s]
    refine ⟨_, q1, ?_⟩
    have fr1 : Fr WX11_records μ _ := frX11_records μ _ q1
    refine hr.go (Ag.of fr1 (dj_of rPg_L (by decide))) ?_ ?_ ?_
    · refine rS.cp_new (hS.eq ?_)
      intro k hk
      rw [wI_i, if_neg (by omega), cp_i, if_neg (by omega), wI_i, if_neg (by omega), cp_i, if_neg (by omega)]
    · show (cp _ _ _ _ _ _).1 243 56 = nI (pushK A.k)
      rw [cp_i, if_neg (by omega), wI_i, if_pos ⟨rfl, rfl⟩, h40]; rfl
    · intro i hi
      have hi' : i < min 40 (A.k + 1) := hi
      show rS 280 (31 * i) (pushH A.k A.hi A.S i) _
      unfold pushH
      rw [if_neg (by omega)]
      by_cases h2 : i = 39
      · rw [if_pos h2]
        refine hr.S.eq ?_
        intro k hk
        show (cp _ _ _ _ _ _).1 280 (31 * i + k) = _
        rw [cp_i, if_neg (by omega), wI_i, if_neg (by omega), cp_i, if_pos (by omega), wI_i, if_neg (by omega), cp_i, if_neg (by omega), show 31 * i + k - 31 * 39 = k by omega]
      · rw [if_neg h2]
        refine (hr.hi (i + 1) (by omega)).eq ?_
        intro k hk
        show (cp _ _ _ _ _ _).1 280 (31 * i + k) = _
        rw [cp_i, if_neg (by omega), wI_i, if_neg (by omega), cp_i, if_neg (by omega), wI_i, if_neg (by omega), cp_i, if_pos (by omega), show 31 + (31 * i + k - 0) = 31 * (i + 1) + k by omega]
  · have q1 : fX11_records μ = some (cp (wI (cp μ 280 (31 * A.k) 276 0 31) 243 56 (nI (A.k + 1))) 276 0 277 0 31) := by
      unfold fX11_records
      have n40 : ¬ nI A.k = 40 := fun q => h40 ((nI_eq (b := 40) (by omega) (by omega)).1 q)
      rw [hr.hn, if_neg n40, rec51_loop _ (u := A.k) (by omega) hr.hn, nm_ap]
      rw [cp_i, if_neg (by omega), hr.hn, nI_1, keepsRow_eq, bind_s]
    refine ⟨_, q1, ?_⟩
    have fr1 : Fr WX11_records μ _ := frX11_records μ _ q1
    refine hr.go (Ag.of fr1 (dj_of rPg_L (by decide))) ?_ ?_ ?_
    · refine rS.cp_new (hS.eq ?_)
      intro k hk
      rw [wI_i, if_neg (by omega), cp_i, if_neg (by omega)]
    · show (cp _ _ _ _ _ _).1 243 56 = nI (pushK A.k)
      rw [cp_i, if_neg (by omega), wI_i, if_pos ⟨rfl, rfl⟩]
      unfold pushK; rw [show min 40 (A.k + 1) = A.k + 1 by omega]
    · intro i hi
      have hi' : i < min 40 (A.k + 1) := hi
      show rS 280 (31 * i) (pushH A.k A.hi A.S i) _
      unfold pushH
      rw [if_pos (by omega)]
      by_cases h2 : i = A.k
      · rw [if_pos h2]
        refine hr.S.eq ?_
        intro k hk
        show (cp _ _ _ _ _ _).1 280 (31 * i + k) = _
        rw [cp_i, if_neg (by omega), wI_i, if_neg (by omega), cp_i, if_pos (by omega), show 31 * i + k - 31 * A.k = k by omega]
      · rw [if_neg h2]
        refine (hr.hi i (by omega)).eq ?_
        intro k hk
        show (cp _ _ _ _ _ _).1 280 (31 * i + k) = _
        rw [cp_i, if_neg (by omega), wI_i, if_neg (by omega), cp_i, if_neg (by omega)]
