/-! ===== a state of the component copied ===== -/
def c0 (μ : Mem) (a b n : Nat) : Mem := (fun x k => if x = a ∧ k < n then μ.1 b k else μ.1 x k, μ.2)
theorem c0_i (μ : Mem) (a b n x k : Nat) : (c0 μ a b n).1 x k = if x = a ∧ k < n then μ.1 b k else μ.1 x k := rfl
theorem c0_0 (μ : Mem) (a b : Nat) : c0 μ a b 0 = μ := by
  apply Prod.ext
  · funext x k; rw [c0_i, if_neg (by omega)]
  · rfl
theorem c0_succ (μ : Mem) {a b : Nat} (n : Nat) (h : a ≠ b) : wI (c0 μ a b n) a n (μ.1 b n) = c0 μ a b (n + 1) := by
  apply Prod.ext
  · funext x k
    rw [wI_i, c0_i, c0_i]
    by_cases h1 : x = a ∧ k = n
    · rw [if_pos h1, if_pos (by omega), h1.2]
    · rw [if_neg h1]
      by_cases h2 : x = a ∧ k < n
      · rw [if_pos h2, if_pos (by omega)]
      · rw [if_neg h2, if_neg (by omega)]
  · rfl
theorem c0_wI (μ : Mem) {a b c : Nat} (n j : Nat) (v : Int32) (h : a ≠ c) (h2 : b ≠ c) : wI (c0 μ a b n) c j v = c0 (wI μ c j v) a b n := by
  apply Prod.ext
  · funext x k
    rw [wI_i, c0_i, c0_i, wI_i, wI_i, if_neg (show ¬ (b = c ∧ k = j) by omega)]
    by_cases h1 : x = c ∧ k = j
    · rw [if_pos h1, if_neg (by omega), if_pos h1]
    · rw [if_neg h1, if_neg h1]
  · rfl
theorem cf34_loop {t0 t1 : Nat} {K : Mem → Option Mem} (μ : Mem) (h : t0 + 3 < t1 ∨ t1 + 3 < t0) : fX5_copyFrom_34 t0 t1 K FU 0 μ = K (c0 (c0 μ (t0 + 2) (t1 + 2) 4) (t0 + 1) (t1 + 1) 4) := by
  have h1 := lupF (L := fun n v m => fX5_copyFrom_34 t0 t1 K n v m) (K := K) (a := μ) 4 (fun i m => m = c0 (c0 μ (t0 + 2) (t1 + 2) i) (t0 + 1) (t1 + 1) i) (fun i m => wI (wI m (t0 + 1) i (m.1 (t1 + 1) i)) (t0 + 2) i (m.1 (t1 + 2) i)) (by omega)
    (by rw [c0_0, c0_0])
    (by
      intro n i m hi hm
      have hb : inb (nI i) 4 := inbN hi (by omega)
      have hcl : (nI i).toNatClampNeg = i := nI_clamp (by omega)
      rw [fX5_copyFrom_34, if_pos (c_lt L_4 hi (by omega))]
      simp only [nm_ap, if_pos hb, hcl, nI_1]
      rw [wI_i, if_neg (by omega)])
    (by
      intro i m hi hm
      subst hm
      have e1 : (c0 (c0 μ (t0 + 2) (t1 + 2) i) (t0 + 1) (t1 + 1) i).1 (t1 + 1) i = (c0 μ (t0 + 2) (t1 + 2) i).1 (t1 + 1) i := by rw [c0_i, if_neg (by omega)]
      have e2 : (c0 (c0 μ (t0 + 2) (t1 + 2) i) (t0 + 1) (t1 + 1) i).1 (t1 + 2) i = μ.1 (t1 + 2) i := by rw [c0_i, if_neg (by omega), c0_i, if_neg (by omega)]
      rw [e1, e2, c0_succ _ _ (by omega), c0_wI _ _ _ _ (by omega) (by omega), c0_succ _ _ (by omega)])
    (by
      intro n m _
      rw [fX5_copyFrom_34, if_neg (c_nlt L_4 (by omega) (by omega))])
  rw [h1.2] at h1
  exact h1.1
theorem cf71_loop {t0 t1 : Nat} {K : Mem → Option Mem} (μ : Mem) (h : t0 + 3 < t1 ∨ t1 + 3 < t0) : fX5_copyFrom_71 t0 t1 K FU 0 μ = K (c0 μ (t0 + 3) (t1 + 3) 7) := by
  have h1 := lupF (L := fun n v m => fX5_copyFrom_71 t0 t1 K n v m) (K := K) (a := μ) 7 (fun i m => m = c0 μ (t0 + 3) (t1 + 3) i) (fun i m => wI m (t0 + 3) i (m.1 (t1 + 3) i)) (by omega)
    (by rw [c0_0])
    (by
      intro n i m hi hm
      rw [fX5_copyFrom_71, if_pos (c_lt L_7 hi (by omega)), if_pos (inbN hi (by omega)), if_pos (inbN hi (by omega)), nI_clamp (by omega), nI_1]
      rfl)
    (by
      intro i m hi hm
      subst hm
      have e1 : (c0 μ (t0 + 3) (t1 + 3) i).1 (t1 + 3) i = μ.1 (t1 + 3) i := by rw [c0_i, if_neg (by omega)]
      rw [e1, c0_succ _ _ (by omega)])
    (by
      intro n m _
      rw [fX5_copyFrom_71, if_neg (c_nlt L_7 (by omega) (by omega))])
  rw [h1.2] at h1
  exact h1.1
def w4 (μ : Mem) (t0 t1 : Nat) : Mem := wI (wI (wI (wI μ t0 0 (μ.1 t1 0)) t0 1 (μ.1 t1 1)) t0 2 (μ.1 t1 2)) t0 3 (μ.1 t1 3)
theorem w4_ne {μ : Mem} {t0 t1 x : Nat} (k : Nat) (hx : x ≠ t0) : (w4 μ t0 t1).1 x k = μ.1 x k := by
  unfold w4
  rw [wI_i, if_neg (by omega), wI_i, if_neg (by omega), wI_i, if_neg (by omega), wI_i, if_neg (by omega)]
theorem w4_eq {μ : Mem} {t0 t1 : Nat} (k : Nat) (hk : k < 4) : (w4 μ t0 t1).1 t0 k = μ.1 t1 k := by
  unfold w4
  rw [wI_i, wI_i, wI_i, wI_i]
  by_cases h3 : k = 3
  · rw [if_pos ⟨rfl, h3⟩, h3]
  rw [if_neg (by omega)]
  by_cases h2 : k = 2
  · rw [if_pos ⟨rfl, h2⟩, h2]
  rw [if_neg (by omega)]
  by_cases h1 : k = 1
  · rw [if_pos ⟨rfl, h1⟩, h1]
  rw [if_neg (by omega), if_pos ⟨rfl, by omega⟩, show k = 0 by omega]
theorem cf_eq {t0 t1 : Nat} {μ : Mem} (h : t0 + 3 < t1 ∨ t1 + 3 < t0) : fX5_copyFrom t0 t1 μ = some (c0 (c0 (c0 (w4 μ t0 t1) (t0 + 2) (t1 + 2) 4) (t0 + 1) (t1 + 1) 4) (t0 + 3) (t1 + 3) 7) := by
  have e : fX5_copyFrom t0 t1 μ = fX5_copyFrom_34 t0 t1 (fun μ7 => fX5_copyFrom_71 t0 t1 (fun μ9 => some μ9) FU 0 μ7) FU 0 (w4 μ t0 t1) := by
    unfold fX5_copyFrom w4
    simp only [nm_ap, wI_i]
    simp only [show ¬ (t1 = t0) by omega, false_and, if_false]
  rw [e, cf34_loop _ h, cf71_loop _ h]
theorem copyFrom_spec {t0 t1 : Nat} {S : St} {μ : Mem} (h : t0 + 3 < t1 ∨ t1 + 3 < t0) (hS : cS t1 S μ) : ∃ m, fX5_copyFrom t0 t1 μ = some m ∧ cS t0 S m := by
  refine ⟨_, cf_eq h, ?_⟩
  refine ⟨?_, ?_, ?_, ?_, ?_, ?_, ?_⟩
  · rw [c0_i, if_neg (by omega), c0_i, if_neg (by omega), c0_i, if_neg (by omega), w4_eq _ (by omega)]; exact hS.wk
  · rw [c0_i, if_neg (by omega), c0_i, if_neg (by omega), c0_i, if_neg (by omega), w4_eq _ (by omega)]; exact hS.mo
  · rw [c0_i, if_neg (by omega), c0_i, if_neg (by omega), c0_i, if_neg (by omega), w4_eq _ (by omega)]; exact hS.dd
  · rw [c0_i, if_neg (by omega), c0_i, if_neg (by omega), c0_i, if_neg (by omega), w4_eq _ (by omega)]; exact hS.sd
  · intro s hs
    rw [c0_i, if_neg (by omega), c0_i, if_pos (by omega), c0_i, if_neg (by omega), w4_ne _ (by omega)]; exact hS.wh s hs
  · intro s hs
    rw [c0_i, if_neg (by omega), c0_i, if_neg (by omega), c0_i, if_pos (by omega), w4_ne _ (by omega)]; exact hS.wn s hs
  · intro s hs
    rw [c0_i, if_pos (by omega), c0_i, if_neg (by omega), c0_i, if_neg (by omega), w4_ne _ (by omega)]; exact hS.re s hs
