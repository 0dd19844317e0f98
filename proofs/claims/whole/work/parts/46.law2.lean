/-! ===== a law of the reference ===== -/
theorem r_termOf {c : List Ins} {p : Nat} {μ : Mem} (ok : okE c) (h8 : p + c.length ≤ 840) (hc : rCode μ p c) :
    (evE (μ.1 274) c = none ∧ ∃ m, fX11_termOf (nI p) (nI (p + c.length)) μ = some (0, wI m 243 49 1) ∧ Ex 275 μ m) ∨
    (∃ a, evE (μ.1 274) c = some a ∧ ∃ m, fX11_termOf (nI p) (nI (p + c.length)) μ = some (a, m) ∧ Ex 275 μ m) := by
  have run := trm_run (K := fun μ11 => some ((μ11.1 275 0), μ11)) h8 c (4095 - c.length) p [] 1 μ rfl ok (by simp) hc trivial
  rw [show 4095 - c.length + c.length + 1 = FU by unfold FU; omega] at run
  unfold fX11_termOf
  rcases ev_one (vs := μ.1 274) ok with ⟨q1, q2⟩ | ⟨a, q1, q2⟩
  · obtain ⟨m, e, x⟩ := run.1 q1
    exact Or.inl ⟨q2, m, e, x⟩
  · obtain ⟨m, e, s, x, _⟩ := run.2 _ q1
    refine Or.inr ⟨a, q2, m, ?_, x⟩
    refine Eq.trans e ?_
    rw [show m.1 275 0 = a from s.1]
theorem h99_r (v : Int32) (μ : Mem) : fX11_within v 0 99 μ = some (h99 v) := by
  unfold fX11_within h99
  split
  · rfl
  · split <;> rfl
