/-! ===== rows copied ===== -/
def cp (μ : Mem) (a fa b fb n : Nat) : Mem := (fun x k => if x = a ∧ fa ≤ k ∧ k < fa + n then μ.1 b (fb + (k - fa)) else μ.1 x k, μ.2)
theorem cp_i (μ : Mem) (a fa b fb n x k : Nat) : (cp μ a fa b fb n).1 x k = if x = a ∧ fa ≤ k ∧ k < fa + n then μ.1 b (fb + (k - fa)) else μ.1 x k := rfl
theorem cp_0 (μ : Mem) (a fa b fb : Nat) : cp μ a fa b fb 0 = μ := by
  apply Prod.ext
  · funext x k; rw [cp_i, if_neg (by omega)]
  · rfl
theorem cp_succ (μ : Mem) (a fa b fb n : Nat) (h : a ≠ b ∨ fa ≤ fb) : wI (cp μ a fa b fb n) a (fa + n) ((cp μ a fa b fb n).1 b (fb + n)) = cp μ a fa b fb (n + 1) := by
  have e : (cp μ a fa b fb n).1 b (fb + n) = μ.1 b (fb + n) := by rw [cp_i, if_neg (by omega)]
  rw [e]
  apply Prod.ext
  · funext x k
    rw [wI_i, cp_i, cp_i]
    by_cases h1 : x = a ∧ k = fa + n
    · rw [if_pos h1, if_pos (by omega), h1.2, show fa + n - fa = n by omega]
    · rw [if_neg h1]
      by_cases h2 : x = a ∧ fa ≤ k ∧ k < fa + n
      · rw [if_pos h2, if_pos (by omega)]
      · rw [if_neg h2, if_neg (by omega)]
  · rfl
theorem cp_loop {R : Type} {L : Nat → Int32 → Mem → Option R} {K : Mem → Option R} {μ : Mem} (a fa b fb N : Nat) (hN : N < 4096) (h : a ≠ b ∨ fa ≤ fb)
    (hs : ∀ m i μ', i < N → μ' = cp μ a fa b fb i → L (m + 1) (nI i) μ' = L m (nI (i + 1)) (wI μ' a (fa + i) (μ'.1 b (fb + i))))
    (he : ∀ m μ', L (m + 1) (nI N) μ' = K μ') : L FU 0 μ = K (cp μ a fa b fb N) := by
  have h1 := lupF (L := L) (K := K) (a := μ) N (fun i m => m = cp μ a fa b fb i) (fun i m => wI m a (fa + i) (m.1 b (fb + i))) hN (cp_0 _ _ _ _ _).symm hs (by intro i m hi hm; subst hm; exact cp_succ μ a fa b fb i h) (fun m μ' _ => he m μ')
  rw [h1.2] at h1
  exact h1.1
theorem rS.cp_new {μ : Mem} {a fa b fb : Nat} {S : St} (h : rS b fb S μ) : rS a fa S (cp μ a fa b fb 31) := by
  have e : ∀ k, k < 31 → (cp μ a fa b fb 31).1 a (fa + k) = μ.1 b (fb + k) := by
    intro k hk
    rw [cp_i, if_pos (by omega), show fa + k - fa = k by omega]
  refine ⟨?_, ?_, ?_, ?_, ?_, ?_, ?_⟩
  · intro g hg; rw [e _ (by omega)]; exact h.wh g hg
  · intro g hg; rw [e _ (by omega)]; exact h.re g hg
  · intro g hg; rw [e _ (by omega)]; exact h.dd g hg
  · intro g hg; rw [e _ (by omega)]; exact h.wn g hg
  · intro g hg; rw [e _ (by omega)]; exact h.sd g hg
  · rw [e _ (by omega)]; exact h.wk
  · rw [e _ (by omega)]; exact h.mo
/-- a row whose 31 cells are as those of another one -/
theorem rS.eq {μ μ' : Mem} {a fa b fb : Nat} {S : St} (h : rS b fb S μ) (e : ∀ k, k < 31 → μ'.1 a (fa + k) = μ.1 b (fb + k)) : rS a fa S μ' := by
  refine ⟨?_, ?_, ?_, ?_, ?_, ?_, ?_⟩
  · intro g hg; rw [e _ (by omega)]; exact h.wh g hg
  · intro g hg; rw [e _ (by omega)]; exact h.re g hg
  · intro g hg; rw [e _ (by omega)]; exact h.dd g hg
  · intro g hg; rw [e _ (by omega)]; exact h.wn g hg
  · intro g hg; rw [e _ (by omega)]; exact h.sd g hg
  · rw [e _ (by omega)]; exact h.wk
  · rw [e _ (by omega)]; exact h.mo
theorem c_lt {i N : Nat} {x : Int32} (hx : x = nI N) (h : i < N) (hN : N < 2 ^ 31) : nI i < x := by subst hx; exact nI_lt h hN
theorem c_nlt {i N : Nat} {x : Int32} (hx : x = nI N) (h : N ≤ i) (hi : i < 2 ^ 31) : ¬ nI i < x := by subst hx; exact nI_nlt h hi
theorem L_1209 : (1209 : Int32) = nI 1209 := rfl
theorem L_1240 : (1240 : Int32) = nI 1240 := rfl
theorem copies_loop {K : Mem → Option Mem} (μ : Mem) : fX11_copies_2 K FU 0 μ = K (cp μ 277 0 276 0 31) := by
  refine cp_loop (L := fun n v m => fX11_copies_2 K n v m) 277 0 276 0 31 (by omega) (by omega) ?_ ?_
  · intro m i μ' hi _
    rw [fX11_copies_2, if_pos (c_lt L_31 hi (by omega)), if_pos (inbN hi (by omega)), if_pos (inbN hi (by omega)), nI_clamp (by omega), nI_1, Nat.zero_add]; rfl
  · intro m μ'
    rw [fX11_copies_2, if_neg (c_nlt L_31 (by omega) (by omega))]
theorem keepsRow_loop {K : Mem → Option Mem} (μ : Mem) : fX11_keepsRow_2 K FU 0 μ = K (cp μ 276 0 277 0 31) := by
  refine cp_loop (L := fun n v m => fX11_keepsRow_2 K n v m) 276 0 277 0 31 (by omega) (by omega) ?_ ?_
  · intro m i μ' hi _
    rw [fX11_keepsRow_2, if_pos (c_lt L_31 hi (by omega)), if_pos (inbN hi (by omega)), if_pos (inbN hi (by omega)), nI_clamp (by omega), nI_1, Nat.zero_add]; rfl
  · intro m μ'
    rw [fX11_keepsRow_2, if_neg (c_nlt L_31 (by omega) (by omega))]
theorem hold_loop {K : Mem → Option (Bool × Mem)} (μ : Mem) {s : Nat} (hs : s < 3) : fX11_hold_20 (nI s) K FU 0 μ = K (cp μ 288 (31 * s) 276 0 31) := by
  refine cp_loop (L := fun n v m => fX11_hold_20 (nI s) K n v m) 288 (31 * s) 276 0 31 (by omega) (by omega) ?_ ?_
  · intro m i μ' hi _
    have e : (31 : Int32) * nI s + nI i = nI (31 * s + i) := by rw [show (31 : Int32) = nI 31 from rfl, pk_mul, nI_add]
    rw [fX11_hold_20, if_pos (c_lt L_31 hi (by omega)), if_pos (inbN hi (by omega)), e, if_pos (inbN (by omega) (by omega)), nI_clamp (by omega), nI_clamp (by omega), nI_1, Nat.zero_add]; rfl
  · intro m μ'
    rw [fX11_hold_20, if_neg (c_nlt L_31 (by omega) (by omega))]
theorem restore_loop {K : Mem → Option (Bool × Mem)} (μ : Mem) {s : Nat} (hs : s < 3) : fX11_restore_22 (nI s) K FU 0 μ = K (cp μ 276 0 288 (31 * s) 31) := by
  refine cp_loop (L := fun n v m => fX11_restore_22 (nI s) K n v m) 276 0 288 (31 * s) 31 (by omega) (by omega) ?_ ?_
  · intro m i μ' hi _
    have e : (31 : Int32) * nI s + nI i = nI (31 * s + i) := by rw [show (31 : Int32) = nI 31 from rfl, pk_mul, nI_add]
    rw [fX11_restore_22, if_pos (c_lt L_31 hi (by omega)), e, if_pos (inbN (by omega) (by omega)), if_pos (inbN hi (by omega)), nI_clamp (by omega), nI_clamp (by omega), nI_1, Nat.zero_add]; rfl
  · intro m μ'
    rw [fX11_restore_22, if_neg (c_nlt L_31 (by omega) (by omega))]
theorem undo_loop {K : Mem → Option (Bool × Mem)} (μ : Mem) {u : Nat} (hu : u < 40) (h : μ.1 243 56 = nI u) : fX11_undo_21 K FU 0 μ = K (cp μ 276 0 280 (31 * u) 31) := by
  refine cp_loop (L := fun n v m => fX11_undo_21 K n v m) 276 0 280 (31 * u) 31 (by omega) (by omega) ?_ ?_
  · intro m i μ' hi hm
    have e : (31 : Int32) * nI u + nI i = nI (31 * u + i) := by rw [show (31 : Int32) = nI 31 from rfl, pk_mul, nI_add]
    have e2 : μ'.1 243 56 = nI u := by rw [hm, cp_i, if_neg (by omega), h]
    rw [fX11_undo_21, if_pos (c_lt L_31 hi (by omega)), e2, e, if_pos (inbN (by omega) (by omega)), if_pos (inbN hi (by omega)), nI_clamp (by omega), nI_clamp (by omega), nI_1, Nat.zero_add]; rfl
  · intro m μ'
    rw [fX11_undo_21, if_neg (c_nlt L_31 (by omega) (by omega))]
theorem rec51_loop {K : Mem → Option Mem} (μ : Mem) {u : Nat} (hu : u < 40) (h : μ.1 243 56 = nI u) : fX11_records_51 K FU 0 μ = K (cp μ 280 (31 * u) 276 0 31) := by
  refine cp_loop (L := fun n v m => fX11_records_51 K n v m) 280 (31 * u) 276 0 31 (by omega) (by omega) ?_ ?_
  · intro m i μ' hi hm
    have e : (31 : Int32) * nI u + nI i = nI (31 * u + i) := by rw [show (31 : Int32) = nI 31 from rfl, pk_mul, nI_add]
    have e2 : μ'.1 243 56 = nI u := by rw [hm, cp_i, if_neg (by omega), h]
    rw [fX11_records_51, if_pos (c_lt L_31 hi (by omega)), if_pos (inbN hi (by omega)), e2, e, if_pos (inbN (by omega) (by omega)), nI_clamp (by omega), nI_clamp (by omega), nI_1, Nat.zero_add]; rfl
  · intro m μ'
    rw [fX11_records_51, if_neg (c_nlt L_31 (by omega) (by omega))]
theorem rec11_loop {K : Mem → Option Mem} (μ : Mem) : fX11_records_11 K FU 0 μ = K (cp μ 280 0 280 31 1209) := by
  refine cp_loop (L := fun n v m => fX11_records_11 K n v m) 280 0 280 31 1209 (by omega) (by omega) ?_ ?_
  · intro m i μ' hi hm
    have e : nI i + 31 = nI (31 + i) := by rw [show (31 : Int32) = nI 31 from rfl, nI_add, Nat.add_comm]
    rw [fX11_records_11, if_pos (c_lt L_1209 hi (by omega)), e, if_pos (inbN (by omega) (by omega)), if_pos (inbN (by omega) (by omega)), nI_clamp (by omega), nI_clamp (by omega), nI_1, Nat.zero_add]; rfl
  · intro m μ'
    rw [fX11_records_11, if_neg (c_nlt L_1209 (by omega) (by omega))]
