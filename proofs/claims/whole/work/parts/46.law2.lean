/-! ===== a law of the reference ===== -/
theorem r_termOf {c : List Ins} {p : Nat} {μ : Mem} (ok : okE c) (h8 : p + c.length ≤ 840) (hc : rCode μ p c) :
    (evE (μ.1 274) c = none ∧ ∃ m, fX11_termOf (nI p) (nI (p + c.length)) μ = some (0, wI m 243 49 1) ∧ Ex 275 μ m) ∨
    (∃ a, evE (μ.1 274) c = some a ∧ ∃ m, fX11_termOf (nI p) (nI (p + c.length)) μ = some (a, m) ∧ Ex 275 μ m) := by
  have run := trm_run (K := fun μ11 => some ((μ11.1 275 0), μ11)) h8 c (4095 - c.length) p [] 1 μ rfl ok (by simp) hc trivial
  rw [show 4095 - c.length + c.length + 1 = FU by unfold FU; omega] at run
  unfold fX11_termOf
  rcases ev_one (vs := μ.1 274) ok with ⟨q1, q2⟩ | ⟨a, q1, q2⟩
  · obtain ⟨m, e, x⟩ := run.1 q1
    exact Or.inl ⟨q2, m, e, x⟩
  · obtain ⟨m, e, s, x, _⟩ := run.2 _ q1
    refine Or.inr ⟨a, q2, m, ?_, x⟩
    refine Eq.trans e ?_
    rw [show m.1 275 0 = a from s.1]
theorem h99_r (v : Int32) (μ : Mem) : fX11_within v 0 99 μ = some (h99 v) := by
  unfold fX11_within h99
  split
  · rfl
  · split <;> rfl
theorem Ex.tri {μ m : Mem} (h : Ex 275 μ m) : Sm 264 272 μ m := h.sm (by omega)
theorem r_lawLast {c : List Ins} {b p : Nat} {μ : Mem} (ok : okE c) (hb : b < 260) (h8 : p + c.length ≤ 840) (hc : rCode μ p c) (h1 : μ.1 269 b = nI p) (h2 : μ.1 270 b = nI (p + c.length)) (h0 : μ.1 243 49 = 0) :
    ∃ m, fX11_lawTells_j125 (nI b) μ = some (h99 ((evE (μ.1 274) c).getD 0), m) := by
  have hbb : inb (nI b) 260 := inbN hb (by omega)
  have hcb : (nI b).toNatClampNeg = b := nI_clamp (by omega)
  unfold fX11_lawTells_j125
  simp only [if_pos hbb, hcb]
  rw [h1, h2]
  rcases r_termOf ok h8 hc with ⟨q, m, e, x⟩ | ⟨a, q, m, e, x⟩
  · refine ⟨wI m 243 49 1, ?_⟩
    rw [e, bind_s]
    have : ¬ (wI m 243 49 1).1 243 49 = 0 := by rw [wI_i, if_pos ⟨rfl, rfl⟩]; decide
    simp only [if_neg this, q]
    rfl
  · refine ⟨m, ?_⟩
    rw [e, bind_s]
    have : m.1 243 49 = 0 := by rw [(x 243 49 (by omega)).1]; exact h0
    simp only [if_pos this, h99_r, bind_s, q]
    rfl
