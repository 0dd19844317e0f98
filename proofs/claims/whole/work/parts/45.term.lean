/-! ===== the reference's laws: one step each ===== -/
theorem trm_int {K : Mem → Option (Int32 × Mem)} {n d p E v : Nat} {μ : Mem} (hp : p < E) (E8 : E ≤ 840) (hd : d < 16) (h1 : μ.1 271 p = nI 0) (h2 : μ.1 272 p = nI v) :
    fX11_termOf_5 (nI E) K (n + 1) (nI d) (nI p) μ = fX11_termOf_5 (nI E) K n (nI (d + 1)) (nI (p + 1)) (wI μ 275 d (nI v)) := by
  have hb : inb (nI p) 840 := inbN (by omega) (by omega)
  have hcl : (nI p).toNatClampNeg = p := nI_clamp (by omega)
  have hbd : inb (nI d) 400 := inbN (by omega) (by omega)
  have hcd : (nI d).toNatClampNeg = d := nI_clamp (by omega)
  rw [fX11_termOf_5, if_pos (nI_lt hp (by omega))]
  simp only [if_pos hb, hcl, nm_ap]
  rw [h1, if_pos (by decide), if_pos (by decide)]
  simp only [if_pos hbd, hcd, h2, nI_1]
theorem trm_var {K : Mem → Option (Int32 × Mem)} {n d p E v : Nat} {μ : Mem} (hp : p < E) (E8 : E ≤ 840) (hd : d < 16) (h1 : μ.1 271 p = nI 1) (h2 : μ.1 272 p = nI v) (hv : v < 9) :
    fX11_termOf_5 (nI E) K (n + 1) (nI d) (nI p) μ = fX11_termOf_5 (nI E) K n (nI (d + 1)) (nI (p + 1)) (wI μ 275 d (μ.1 274 v)) := by
  have hb : inb (nI p) 840 := inbN (by omega) (by omega)
  have hcl : (nI p).toNatClampNeg = p := nI_clamp (by omega)
  have hbd : inb (nI d) 400 := inbN (by omega) (by omega)
  have hcd : (nI d).toNatClampNeg = d := nI_clamp (by omega)
  have hbv : inb (nI v) 9 := inbN (by omega) (by omega)
  have hcv : (nI v).toNatClampNeg = v := nI_clamp (by omega)
  rw [fX11_termOf_5, if_pos (nI_lt hp (by omega))]
  simp only [if_pos hb, hcl, nm_ap]
  rw [h1, if_pos (by decide), if_neg (by decide)]
  simp only [if_pos hbd, hcd, h2, if_pos hbv, hcv, nI_1]
theorem trm_op {K : Mem → Option (Int32 × Mem)} {n d p E k : Nat} {μ : Mem} (hp : p < E) (E8 : E ≤ 840) (hd : d + 2 ≤ 16) (k2 : 2 ≤ k) (k5 : k ≤ 5) (h1 : μ.1 271 p = nI k) :
    fX11_termOf_5 (nI E) K (n + 1) (nI (d + 2)) (nI p) μ = if k = 5 ∧ μ.1 275 (d + 1) = 0 then some (0, wI μ 243 49 1) else fX11_termOf_5 (nI E) K n (nI (d + 1)) (nI (p + 1)) (wI μ 275 d (opv k (μ.1 275 d) (μ.1 275 (d + 1)))) := by
  have hb : inb (nI p) 840 := inbN (by omega) (by omega)
  have hcl : (nI p).toNatClampNeg = p := nI_clamp (by omega)
  have hb0 : inb (nI d) 400 := inbN (by omega) (by omega)
  have hc0 : (nI d).toNatClampNeg = d := nI_clamp (by omega)
  have hb1 : inb (nI (d + 1)) 400 := inbN (by omega) (by omega)
  have hc1 : (nI (d + 1)).toNatClampNeg = d + 1 := nI_clamp (by omega)
  have e3 : nI (d + 2) + (-1) = nI (d + 1) := pk_m1 (d + 1)
  have e4 : nI (d + 1) - 1 = nI d := nI_pred d
  have n2 : ¬ nI k < 2 := fun q => by have := (nI_ltI (b := 2) (by omega) (by omega)).1 q; omega
  rw [fX11_termOf_5, if_pos (nI_lt hp (by omega))]
  simp only [if_pos hb, hcl, nm_ap]
  rw [h1, if_neg n2, e3, e4]
  simp only [if_pos hb0, hc0, if_pos hb1, hc1]
  unfold fX11_termOf_j104_5 opv
  simp only [e4, if_pos hb0, hc0, nm_ap, nI_1]
  rcases (show k = 2 ∨ k = 3 ∨ k = 4 ∨ k = 5 by omega) with e | e | e | e
  · subst e; rw [if_neg (by decide), if_pos (by decide), if_neg (fun q => absurd q.1 (by decide)), if_pos rfl]
  · subst e; rw [if_neg (by decide), if_neg (by decide), if_pos (by decide), if_neg (fun q => absurd q.1 (by decide)), if_neg (by decide), if_pos rfl]
  · subst e; rw [if_neg (by decide), if_neg (by decide), if_neg (by decide), if_pos (by decide), if_neg (fun q => absurd q.1 (by decide)), if_neg (by decide), if_neg (by decide), if_pos rfl]
  · subst e
    rw [if_pos (by decide)]
    by_cases z : μ.1 275 (d + 1) = 0
    · rw [if_pos z, if_pos ⟨rfl, z⟩]
    · rw [if_neg z, if_neg (by decide), if_neg (by decide), if_neg (by decide), if_neg z, if_neg (fun q => z q.2), if_neg (by decide), if_neg (by decide), if_neg (by decide)]
theorem trm_run {E : Nat} {K : Mem → Option (Int32 × Mem)} (E8 : E ≤ 840) : ∀ (c : List Ins) (n p : Nat) (st : List Int32) (d' : Nat) (μ : Mem), p + c.length = E → dpt c st.length = some d' → st.length ≤ 15 → rCode μ p c → stk μ 275 st →
    (ev (μ.1 274) c st = none → ∃ m, fX11_termOf_5 (nI E) K (n + c.length + 1) (nI st.length) (nI p) μ = some (0, wI m 243 49 1) ∧ Ex 275 μ m) ∧
    (∀ st', ev (μ.1 274) c st = some st' → ∃ m, fX11_termOf_5 (nI E) K (n + c.length + 1) (nI st.length) (nI p) μ = K m ∧ stk m 275 st' ∧ Ex 275 μ m ∧ st'.length = d')
  | [], n, p, st, d', μ, hp, hd, h15, hc, hs => by
    simp only [List.length_nil, Nat.add_zero] at hp
    have e : fX11_termOf_5 (nI E) K (n + 1) (nI st.length) (nI p) μ = K μ := by
      rw [fX11_termOf_5, hp, if_neg (nI_nlt (by omega) (by omega))]
    refine ⟨fun q => by simp [ev] at q, fun st' q => ⟨μ, ?_, ?_, Ex.rfl, ?_⟩⟩
    · simpa using e
    · simp [ev] at q; subst q; exact hs
    · simp [ev] at q; subst q; simpa [dpt] using hd
  | x :: c, n, p, st, d', μ, hp, hd, h15, hc, hs => by
    simp only [List.length_cons] at hp ⊢
    rw [show n + (c.length + 1) + 1 = (n + c.length + 1) + 1 by omega]
    obtain ⟨k1, k2, k3⟩ := hc
    have next : ∀ (v : Int32) (j : Nat), rCode (wI μ 275 j v) (p + 1) c ∧ (wI μ 275 j v).1 274 = μ.1 274 := by
      intro v j
      refine ⟨rCode_sm (Ex.w.sm (by omega)) k3, ?_⟩
      funext q; rw [wI_i, if_neg (by omega)]
    have push : ∀ (v : Int32), dpt c (st.length + 1) = some d' → st.length < 15 → ev (μ.1 274) (x :: c) st = ev (μ.1 274) c (v :: st) → fX11_termOf_5 (nI E) K (n + c.length + 1 + 1) (nI st.length) (nI p) μ = fX11_termOf_5 (nI E) K (n + c.length + 1) (nI (st.length + 1)) (nI (p + 1)) (wI μ 275 st.length v) →
        (ev (μ.1 274) (x :: c) st = none → ∃ m, fX11_termOf_5 (nI E) K (n + c.length + 1 + 1) (nI st.length) (nI p) μ = some (0, wI m 243 49 1) ∧ Ex 275 μ m) ∧
        (∀ st', ev (μ.1 274) (x :: c) st = some st' → ∃ m, fX11_termOf_5 (nI E) K (n + c.length + 1 + 1) (nI st.length) (nI p) μ = K m ∧ stk m 275 st' ∧ Ex 275 μ m ∧ st'.length = d') := by
      intro v hd1 hlt hev hstep
      obtain ⟨a2, a3⟩ := next v st.length
      have ih := trm_run (K := K) E8 c n (p + 1) (v :: st) d' (wI μ 275 st.length v) (by omega) (by simp only [List.length_cons]; exact hd1) (by simp only [List.length_cons]; omega) a2 ⟨by rw [wI_i, if_pos ⟨rfl, rfl⟩], stk_wI (Nat.le_refl _) hs⟩
      simp only [List.length_cons, a3] at ih
      rw [hev, hstep]
      refine ⟨fun q => ?_, fun st' q => ?_⟩
      · obtain ⟨m, b1, b2⟩ := ih.1 q
        exact ⟨m, b1, Ex.trans Ex.w b2⟩
      · obtain ⟨m, b1, b2, b3, b4⟩ := ih.2 st' q
        exact ⟨m, b1, b2, Ex.trans Ex.w b3, b4⟩
    rw [dpt] at hd
    by_cases c0 : x.1 = 0
    · rw [if_pos c0] at hd
      by_cases l15 : st.length < 15
      · rw [if_pos l15] at hd
        refine push (nI x.2) hd l15 (ev_0 c0) ?_
        exact trm_int (by omega) E8 (by omega) (by rw [k1, c0]) (k2 (by omega))
      · rw [if_neg l15] at hd; cases hd
    · rw [if_neg c0] at hd
      by_cases c1 : x.1 = 1
      · rw [if_pos c1] at hd
        by_cases l15 : st.length < 15 ∧ x.2 < 9
        · rw [if_pos l15] at hd
          refine push (μ.1 274 x.2) hd l15.1 (ev_1 c1) ?_
          exact trm_var (by omega) E8 (by omega) (by rw [k1, c1]) (k2 (by omega)) l15.2
        · rw [if_neg l15] at hd; cases hd
      · rw [if_neg c1] at hd
        by_cases l2 : 2 ≤ st.length ∧ x.1 ≤ 5
        · rw [if_pos l2] at hd
          rcases st with _ | ⟨v1, _ | ⟨v0, r⟩⟩
          · simp at l2
          · simp at l2
          · simp only [List.length_cons] at *
            have hs1 : μ.1 275 (r.length + 1) = v1 := hs.1
            have hs0 : μ.1 275 r.length = v0 := hs.2.1
            have step := trm_op (K := K) (n := n + c.length + 1) (d := r.length) (show p < E by omega) E8 (by omega) (show 2 ≤ x.1 by omega) l2.2 k1
            rw [hs1, hs0] at step
            rw [ev_2 c0 c1, step]
            by_cases z : x.1 = 5 ∧ v1 = 0
            · rw [if_pos z, if_pos z]
              exact ⟨fun _ => ⟨μ, rfl, Ex.rfl⟩, fun st' q => by cases q⟩
            · rw [if_neg z, if_neg z]
              obtain ⟨a2, a3⟩ := next (opv x.1 v0 v1) r.length
              have ih := trm_run (K := K) E8 c n (p + 1) (opv x.1 v0 v1 :: r) d' (wI μ 275 r.length (opv x.1 v0 v1)) (by omega) (by simp only [List.length_cons]; exact hd) (by simp only [List.length_cons]; omega) a2 ⟨by rw [wI_i, if_pos ⟨rfl, rfl⟩], stk_wI (Nat.le_refl _) hs.2.2⟩
              simp only [List.length_cons, a3] at ih
              refine ⟨fun q => ?_, fun st' q => ?_⟩
              · obtain ⟨m, b1, b2⟩ := ih.1 q
                exact ⟨m, b1, Ex.trans Ex.w b2⟩
              · obtain ⟨m, b1, b2, b3, b4⟩ := ih.2 st' q
                exact ⟨m, b1, b2, Ex.trans Ex.w b3, b4⟩
        · rw [if_neg l2] at hd; cases hd
