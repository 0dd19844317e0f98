/-! ===== the loop over a law's branches ===== -/
theorem rLaw_le {μ : Mem} {las : List Ins} {e : Nat} : ∀ {r : List (List Ins × List Ins × List Ins)} {b p : Nat}, rLaw μ las b p r e → b < e ∧ e ≤ 260 ∧ p ≤ 840
  | [], b, p, h => by
    obtain ⟨_, _, _, _, h5, h6, h7⟩ := h
    omega
  | c :: r, b, p, h => by
    obtain ⟨_, _, _, _, _, _, _, _, h9⟩ := h
    have := rLaw_le h9
    omega
theorem r_lawLoop {K : Mem → Option (Int32 × Mem)} {x e : Nat} (hx : x < 8) {las : List Ins} (okl : okE las) : ∀ (r : List (List Ins × List Ins × List Ins)) (b p n : Nat) (μ : Mem), μ.1 265 x = nI e → rLaw μ las b p r e → (∀ q, q ∈ r → okE q.1 ∧ okE q.2.1 ∧ okE q.2.2) → μ.1 243 49 = 0 → r.length < n →
    ∃ m, fX11_lawTells_45 (nI x) K n (nI b) μ = some (h99 (evB (μ.1 274) las r), m)
  | [], b, p, 0, μ, h1, h2, h3, h4, h5 => by simp at h5
  | [], b, p, n + 1, μ, h1, h2, h3, h4, h5 => by
    have h7 := rLaw_le h2
    obtain ⟨a1, a2, a3, a4, a5, a6, a7⟩ := h2
    have hbx : inb (nI x) 8 := inbN hx (by omega)
    have hcx : (nI x).toNatClampNeg = x := nI_clamp (by omega)
    have hbb : inb (nI b) 260 := inbN a6 (by omega)
    have hcb : (nI b).toNatClampNeg = b := nI_clamp (by omega)
    rw [fX11_lawTells_45]
    simp only [if_pos hbx, hcx, if_pos hbb, hcb]
    rw [h1, if_pos (nI_lt h7.1 (by omega)), if_pos a1]
    exact r_lawLast okl a6 a7 a4 a2 a3 h4
  | c :: r, b, p, 0, μ, h1, h2, h3, h4, h5 => by simp at h5
  | c :: r, b, p, n + 1, μ, h1, h2, h3, h4, h5 => by
    have h7 := rLaw_le h2
    obtain ⟨a1, a2, a3, a4, a5, a6, a7, a8, a9⟩ := h2
    have h8 := rLaw_le a9
    obtain ⟨k1, k2, k3⟩ := h3 c (List.mem_cons_self ..)
    have hbx : inb (nI x) 8 := inbN hx (by omega)
    have hcx : (nI x).toNatClampNeg = x := nI_clamp (by omega)
    have hbb : inb (nI b) 260 := inbN (by omega) (by omega)
    have hcb : (nI b).toNatClampNeg = b := nI_clamp (by omega)
    rw [fX11_lawTells_45]
    simp only [if_pos hbx, hcx, if_pos hbb, hcb]
    rw [h1, if_pos (nI_lt h7.1 (by omega)), if_neg (by rw [a1]; decide), a2, a4]
    rcases r_termOf k1 (by omega) a3 with ⟨q, m, e1, x1⟩ | ⟨u, q, m, e1, x1⟩
    · rw [e1, bind_s]
      have sm : Sm 264 272 μ (wI m 243 49 1) := fun y j y1 y2 => by
        have := x1 y j (by omega)
        refine ⟨?_, this.2⟩
        rw [wI_i, if_neg (by omega)]; exact this.1
      have f1 : (wI m 243 49 1).1 268 b = nI (p + c.1.length) := by rw [sm.i 268 b (by omega) (by omega)]; exact a4
      have f2 : (wI m 243 49 1).1 269 b = nI (p + c.1.length + c.2.1.length) := by rw [sm.i 269 b (by omega) (by omega)]; exact a6
      simp only [f1, f2]
      have f0 : (wI m 243 49 1).1 243 49 = 1 := by rw [wI_i, if_pos ⟨rfl, rfl⟩]
      have res : evB (μ.1 274) las (c :: r) = 0 := by simp only [evB, q]
      rw [res]
      rcases r_termOf k2 (by omega) (rCode_sm sm a5) with ⟨q2, m2, e2, x2⟩ | ⟨u2, q2, m2, e2, x2⟩
      · refine ⟨wI m2 243 49 1, ?_⟩
        rw [e2, bind_s]
        have : ¬ (wI m2 243 49 1).1 243 49 = 0 := by rw [wI_i, if_pos ⟨rfl, rfl⟩]; decide
        simp only [if_neg this]; rfl
      · refine ⟨m2, ?_⟩
        rw [e2, bind_s]
        have : ¬ m2.1 243 49 = 0 := by rw [(x2 243 49 (by omega)).1, f0]; decide
        simp only [if_neg this]; rfl
    · rw [e1, bind_s]
      have sm : Sm 264 272 μ m := x1.tri
      have f1 : m.1 268 b = nI (p + c.1.length) := by rw [sm.i 268 b (by omega) (by omega)]; exact a4
      have f2 : m.1 269 b = nI (p + c.1.length + c.2.1.length) := by rw [sm.i 269 b (by omega) (by omega)]; exact a6
      have v1 : m.1 274 = μ.1 274 := funext fun j => (x1 274 j (by omega)).1
      simp only [f1, f2]
      rcases r_termOf k2 (by omega) (rCode_sm sm a5) with ⟨q2, m2, e2, x2⟩ | ⟨u2, q2, m2, e2, x2⟩
      · refine ⟨wI m2 243 49 1, ?_⟩
        rw [e2, bind_s]
        rw [v1] at q2
        have res : evB (μ.1 274) las (c :: r) = 0 := by simp only [evB, q, q2]
        rw [res]
        have : ¬ (wI m2 243 49 1).1 243 49 = 0 := by rw [wI_i, if_pos ⟨rfl, rfl⟩]; decide
        simp only [if_neg this]; rfl
      · rw [v1] at q2
        have xx := Ex.trans x1 x2
        have v2 : m2.1 274 = μ.1 274 := funext fun j => (xx 274 j (by omega)).1
        have sm2 : Sm 264 272 μ m2 := xx.tri
        rw [e2, bind_s]
        have z : m2.1 243 49 = 0 := by rw [(xx 243 49 (by omega)).1]; exact h4
        simp only [if_pos z]
        rw [evB, q, q2]
        by_cases l : u < u2
        · simp only [if_pos l]
          have := r_lawLast (b := b) (p := p + c.1.length + c.2.1.length) (μ := m2) k3 (by omega) (by omega) (rCode_sm sm2 a7) (by rw [sm2.i 269 b (by omega) (by omega)]; exact a6) (by rw [sm2.i 270 b (by omega) (by omega)]; exact a8) z
          rw [v2] at this
          exact this
        · simp only [if_neg l]
          have := r_lawLoop (K := K) hx okl r (b + 1) (p + c.1.length + c.2.1.length + c.2.2.length) n m2 (by rw [sm2.i 265 x (by omega) (by omega)]; exact h1) (rLaw_sm sm2 a9) (fun y hy => h3 y (List.mem_cons_of_mem _ hy)) z (by simp at h5; omega)
          rw [v2] at this
          rw [nI_1]
          exact this
theorem rLaw_len {μ : Mem} {las : List Ins} {e : Nat} : ∀ {r : List (List Ins × List Ins × List Ins)} {b p : Nat}, rLaw μ las b p r e → b + r.length < e
  | [], b, p, h => by
    obtain ⟨_, _, _, _, h5, h6, h7⟩ := h
    simp only [List.length_nil]; omega
  | c :: r, b, p, h => by
    obtain ⟨_, _, _, _, _, _, _, _, h9⟩ := h
    have := rLaw_len h9
    simp only [List.length_cons]; omega
theorem r_lawTells {v : Nat} {T : Txt} {μ : Mem} (h : rX v T μ) {k : Nat} (hk : k < 4) {pl : Int32} (hp : pl = if k = 0 then μ.1 274 0 else if k = 1 then μ.1 274 1 else if k = 2 then 1 else μ.1 274 5) : ∃ m, fX11_lawTells (nI k) pl μ = some (lawV T k (μ.1 274), m) := by
  obtain ⟨b, e, h1, h2, h3⟩ := h.2.2.2.la k hk
  have v1 := h.2.1
  have hbx : inb (nI (4 * v + k)) 8 := inbN (by omega) (by omega)
  have hcx : (nI (4 * v + k)).toNatClampNeg = 4 * v + k := nI_clamp (by omega)
  unfold fX11_lawTells
  rw [h.1, ix4, nm_ap]
  simp only [if_pos hbx, hcx]
  rw [h1, h2]
  rcases h3 with ⟨t, he, _⟩ | ⟨t, p, law, _⟩
  · refine ⟨μ, ?_⟩
    rw [if_pos (by rw [he]), h99_r, bind_s]
    have d := h.2.2.1.df k hk t
    unfold lawV
    rw [d, hp]
    congr 3
    unfold dfl
    rcases (show k = 0 ∨ k = 1 ∨ k = 2 ∨ k = 3 by omega) with q | q | q | q <;> subst q <;> rfl
  · have le := rLaw_le law
    have ln := rLaw_len law
    have ok := h.2.2.1.la k hk
    rw [if_neg (fun q => by have := (nI_eq (by omega) (by omega)).1 q; omega), nm_ap, nm_ap]
    have sm : Sm 264 272 μ (wI μ 243 49 0) := fun y j y1 y2 => ⟨by rw [wI_i, if_neg (by omega)], rfl⟩
    have f1 : (wI μ 243 49 0).1 264 (4 * v + k) = nI b := by rw [sm.i 264 _ (by omega) (by omega)]; exact h1
    rw [f1]
    have := r_lawLoop (K := fun μ8 => some (0, μ8)) (x := 4 * v + k) (by omega) ok.2 (T.la k).1 b p FU (wI μ 243 49 0) (by rw [sm.i 265 _ (by omega) (by omega)]; exact h2) (rLaw_sm sm law) ok.1 (by rw [wI_i, if_pos ⟨rfl, rfl⟩]) (by unfold FU; omega)
    have v2 : (wI μ 243 49 0).1 274 = μ.1 274 := funext fun j => by rw [wI_i, if_neg (by omega)]
    rw [v2] at this
    exact this
