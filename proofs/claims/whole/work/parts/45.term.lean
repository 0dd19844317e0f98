/-! ===== the reference's laws: one step each ===== -/
theorem trm_int {K : Mem → Option (Int32 × Mem)} {n d p E v : Nat} {μ : Mem} (hp : p < E) (E8 : E ≤ 840) (hd : d < 16) (h1 : μ.1 271 p = nI 0) (h2 : μ.1 272 p = nI v) :
    fX11_termOf_5 (nI E) K (n + 1) (nI d) (nI p) μ = fX11_termOf_5 (nI E) K n (nI (d + 1)) (nI (p + 1)) (wI μ 275 d (nI v)) := by
  have hb : inb (nI p) 840 := inbN (by omega) (by omega)
  have hcl : (nI p).toNatClampNeg = p := nI_clamp (by omega)
  have hbd : inb (nI d) 400 := inbN (by omega) (by omega)
  have hcd : (nI d).toNatClampNeg = d := nI_clamp (by omega)
  rw [fX11_termOf_5, if_pos (nI_lt hp (by omega))]
  simp only [if_pos hb, hcl, nm_ap]
  rw [h1, if_pos (by decide), if_pos (by decide)]
  simp only [if_pos hbd, hcd, h2, nI_1]
theorem trm_var {K : Mem → Option (Int32 × Mem)} {n d p E v : Nat} {μ : Mem} (hp : p < E) (E8 : E ≤ 840) (hd : d < 16) (h1 : μ.1 271 p = nI 1) (h2 : μ.1 272 p = nI v) (hv : v < 9) :
    fX11_termOf_5 (nI E) K (n + 1) (nI d) (nI p) μ = fX11_termOf_5 (nI E) K n (nI (d + 1)) (nI (p + 1)) (wI μ 275 d (μ.1 274 v)) := by
  have hb : inb (nI p) 840 := inbN (by omega) (by omega)
  have hcl : (nI p).toNatClampNeg = p := nI_clamp (by omega)
  have hbd : inb (nI d) 400 := inbN (by omega) (by omega)
  have hcd : (nI d).toNatClampNeg = d := nI_clamp (by omega)
  have hbv : inb (nI v) 9 := inbN (by omega) (by omega)
  have hcv : (nI v).toNatClampNeg = v := nI_clamp (by omega)
  rw [fX11_termOf_5, if_pos (nI_lt hp (by omega))]
  simp only [if_pos hb, hcl, nm_ap]
  rw [h1, if_pos (by decide), if_neg (by decide)]
  simp only [if_pos hbd, hcd, h2, if_pos hbv, hcv, nI_1]
theorem trm_op {K : Mem → Option (Int32 × Mem)} {n d p E k : Nat} {μ : Mem} (hp : p < E) (E8 : E ≤ 840) (hd : d + 2 ≤ 16) (k2 : 2 ≤ k) (k5 : k ≤ 5) (h1 : μ.1 271 p = nI k) :
    fX11_termOf_5 (nI E) K (n + 1) (nI (d + 2)) (nI p) μ = if k = 5 ∧ μ.1 275 (d + 1) = 0 then some (0, wI μ 243 49 1) else fX11_termOf_5 (nI E) K n (nI (d + 1)) (nI (p + 1)) (wI μ 275 d (opv k (μ.1 275 d) (μ.1 275 (d + 1)))) := by
  have hb : inb (nI p) 840 := inbN (by omega) (by omega)
  have hcl : (nI p).toNatClampNeg = p := nI_clamp (by omega)
  have hb0 : inb (nI d) 400 := inbN (by omega) (by omega)
  have hc0 : (nI d).toNatClampNeg = d := nI_clamp (by omega)
  have hb1 : inb (nI (d + 1)) 400 := inbN (by omega) (by omega)
  have hc1 : (nI (d + 1)).toNatClampNeg = d + 1 := nI_clamp (by omega)
  have e3 : nI (d + 2) + (-1) = nI (d + 1) := pk_m1 (d + 1)
  have e4 : nI (d + 1) - 1 = nI d := nI_pred d
  have n2 : ¬ nI k < 2 := fun q => by have := (nI_ltI (b := 2) (by omega) (by omega)).1 q; omega
  rw [fX11_termOf_5, if_pos (nI_lt hp (by omega))]
  simp only [if_pos hb, hcl, nm_ap]
  rw [h1, if_neg n2, e3, e4]
  simp only [if_pos hb0, hc0, if_pos hb1, hc1]
  unfold fX11_termOf_j104_5 opv
  simp only [e4, if_pos hb0, hc0, nm_ap, nI_1]
  rcases (show k = 2 ∨ k = 3 ∨ k = 4 ∨ k = 5 by omega) with e | e | e | e
  · subst e; rw [if_neg (by decide), if_pos (by decide), if_neg (fun q => absurd q.1 (by decide)), if_pos rfl]
  · subst e; rw [if_neg (by decide), if_neg (by decide), if_pos (by decide), if_neg (fun q => absurd q.1 (by decide)), if_neg (by decide), if_pos rfl]
  · subst e; rw [if_neg (by decide), if_neg (by decide), if_neg (by decide), if_pos (by decide), if_neg (fun q => absurd q.1 (by decide)), if_neg (by decide), if_neg (by decide), if_pos rfl]
  · subst e
    rw [if_pos (by decide)]
    by_cases z : μ.1 275 (d + 1) = 0
    · rw [if_pos z, if_pos ⟨rfl, z⟩]
    · rw [if_neg z, if_neg (by decide), if_neg (by decide), if_neg (by decide), if_neg z, if_neg (fun q => z q.2), if_neg (by decide), if_neg (by decide), if_neg (by decide)]
