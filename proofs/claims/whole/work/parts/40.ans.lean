/-! ===== the component's laws: one step each ===== -/
theorem ans_int {t : Nat} {K : Mem → Option (Int32 × Mem)} {n d p E v : Nat} {μ : Mem} (hE : μ.1 t 3 = nI E) (hp : p < E) (E8 : E ≤ 408) (hd : d < 16) (h1 : μ.1 (t + 1) p = nI 3) (h2 : μ.1 (t + 2) p = nI v) :
    fX2_answer_11 t K (n + 1) (nI d) (nI p) μ = fX2_answer_11 t K n (nI (d + 1)) (nI (p + 1)) (wI μ 182 d (nI v)) := by
  have hb : inb (nI p) 408 := inbN (by omega) (by omega)
  have hcl : (nI p).toNatClampNeg = p := nI_clamp (by omega)
  have hbd : inb (nI d) 16 := inbN (by omega) (by omega)
  have hcd : (nI d).toNatClampNeg = d := nI_clamp (by omega)
  rw [fX2_answer_11, hE, if_pos (nI_lt hp (by omega))]
  simp only [if_pos hb, hcl, nm_ap]
  rw [h1, if_neg (by decide), if_pos (by decide)]
  unfold fX2_answer_j64_11
  rw [if_pos (c_lt L_16 hd (by omega)), if_pos (by decide)]
  simp only [if_pos hb, hcl, if_pos hbd, hcd, nm_ap, h2, nI_1]
theorem ans_var {t : Nat} {K : Mem → Option (Int32 × Mem)} {n d p E v : Nat} {μ : Mem} (hE : μ.1 t 3 = nI E) (hp : p < E) (E8 : E ≤ 408) (hd : d < 16) (h1 : μ.1 (t + 1) p = nI 13) (h2 : μ.1 (t + 2) p = nI v) (hv : v < 9) :
    fX2_answer_11 t K (n + 1) (nI d) (nI p) μ = fX2_answer_11 t K n (nI (d + 1)) (nI (p + 1)) (wI μ 182 d (μ.1 181 v)) := by
  have hb : inb (nI p) 408 := inbN (by omega) (by omega)
  have hcl : (nI p).toNatClampNeg = p := nI_clamp (by omega)
  have hbd : inb (nI d) 16 := inbN (by omega) (by omega)
  have hcd : (nI d).toNatClampNeg = d := nI_clamp (by omega)
  have hbv : inb (nI v) 9 := inbN (by omega) (by omega)
  have hcv : (nI v).toNatClampNeg = v := nI_clamp (by omega)
  rw [fX2_answer_11, hE, if_pos (nI_lt hp (by omega))]
  simp only [if_pos hb, hcl, nm_ap]
  rw [h1, if_neg (by decide), if_neg (by decide), if_pos (by decide)]
  unfold fX2_answer_j64_11
  rw [if_pos (c_lt L_16 hd (by omega)), if_neg (by decide)]
  simp only [if_pos hb, hcl, h2, if_pos hbd, hcd, if_pos hbv, hcv, nm_ap, nI_1]
theorem ans_end {t : Nat} {K : Mem → Option (Int32 × Mem)} {n d p E : Nat} {μ : Mem} (hE : μ.1 t 3 = nI E) (hp : p < E) (E8 : E ≤ 408) (hd : d < 16) (h1 : μ.1 (t + 1) p = 0) :
    fX2_answer_11 t K (n + 1) (nI (d + 1)) (nI p) μ = some (μ.1 182 d, μ) := by
  have hb : inb (nI p) 408 := inbN (by omega) (by omega)
  have hcl : (nI p).toNatClampNeg = p := nI_clamp (by omega)
  have hbd : inb (nI d) 16 := inbN (by omega) (by omega)
  have hcd : (nI d).toNatClampNeg = d := nI_clamp (by omega)
  rw [fX2_answer_11, hE, if_pos (nI_lt hp (by omega))]
  simp only [if_pos hb, hcl, nm_ap]
  rw [h1, if_pos rfl, if_neg (c_nlt L_1 (by omega) (by omega))]
  simp only [nI_pred, if_pos hbd, hcd]
theorem ans_less {t : Nat} {K : Mem → Option (Int32 × Mem)} {n d p E v : Nat} {μ : Mem} (hE : μ.1 t 3 = nI E) (hp : p < E) (E8 : E ≤ 408) (hd : d + 2 ≤ 16) (h1 : μ.1 (t + 1) p = 10) (h2 : μ.1 (t + 2) p = nI (v + 1)) (hv : p ≤ v) (hv2 : v < 2 ^ 30) :
    fX2_answer_11 t K (n + 1) (nI (d + 2)) (nI p) μ = if μ.1 182 d < μ.1 182 (d + 1) then fX2_answer_11 t K n (nI d) (nI (p + 1)) μ else fX2_answer_11 t K n (nI d) (nI (v + 1)) μ := by
  have hb : inb (nI p) 408 := inbN (by omega) (by omega)
  have hcl : (nI p).toNatClampNeg = p := nI_clamp (by omega)
  have hb0 : inb (nI d) 16 := inbN (by omega) (by omega)
  have hc0 : (nI d).toNatClampNeg = d := nI_clamp (by omega)
  have hb1 : inb (nI (d + 1)) 16 := inbN (by omega) (by omega)
  have hc1 : (nI (d + 1)).toNatClampNeg = d + 1 := nI_clamp (by omega)
  have e2 : nI (d + 2) - 2 = nI d := by rw [L_2, pk_sub (by omega)]; rfl
  have e1 : nI (d + 2) - 1 = nI (d + 1) := nI_pred (d + 1)
  have e3 : nI (d + 2) + (-2) = nI d := by
    rw [show (-2 : Int32) = -1 + -1 by decide, ← Int32.add_assoc, show d + 2 = (d + 1) + 1 by omega, pk_m1, pk_m1]
  have ev : mxI (nI p) (nI (v + 1) - 1) = nI v := by rw [nI_pred, mxI_nI (by omega) (by omega), Nat.max_eq_right hv]
  rw [fX2_answer_11, hE, if_pos (nI_lt hp (by omega))]
  simp only [if_pos hb, hcl, nm_ap]
  rw [h1, if_neg (by decide), if_neg (by decide), if_neg (by decide), if_neg (c_nlt L_2 (by omega) (by omega)), e2, e1, e3]
  simp only [if_pos hb0, hc0, if_pos hb1, hc1]
  rw [if_pos (by decide), h2, ev, nI_1, nI_1]
