/-! ===== a code over a longer stack ===== -/
theorem ev_tl {vs : Nat → Int32} (tl : List Int32) : ∀ (c : List Ins) (st : List Int32) (d' : Nat), dpt c st.length = some d' → ev vs c (st ++ tl) = (ev vs c st).map (· ++ tl) ∧ ∀ st', ev vs c st = some st' → st'.length = d'
  | [], st, d', h => by
    refine ⟨by simp [ev], fun st' q => ?_⟩
    simp [ev] at q; subst q; simpa [dpt] using h
  | x :: c, st, d', h => by
    rw [dpt] at h
    by_cases c0 : x.1 = 0
    · rw [if_pos c0] at h
      by_cases l : st.length < 15
      · rw [if_pos l] at h
        rw [ev_0 c0, ev_0 c0]
        exact ev_tl tl c (nI x.2 :: st) d' h
      · rw [if_neg l] at h; cases h
    · rw [if_neg c0] at h
      by_cases c1 : x.1 = 1
      · rw [if_pos c1] at h
        by_cases l : st.length < 15 ∧ x.2 < 9
        · rw [if_pos l] at h
          rw [ev_1 c1, ev_1 c1]
          exact ev_tl tl c (vs x.2 :: st) d' h
        · rw [if_neg l] at h; cases h
      · rw [if_neg c1] at h
        by_cases l : 2 ≤ st.length ∧ x.1 ≤ 5
        · rw [if_pos l] at h
          rcases st with _ | ⟨v1, _ | ⟨v0, r⟩⟩
          · simp at l
          · simp at l
          · rw [List.cons_append, List.cons_append, ev_2 c0 c1, ev_2 c0 c1]
            by_cases z : x.1 = 5 ∧ v1 = 0
            · rw [if_pos z, if_pos z]; exact ⟨rfl, fun st' q => by cases q⟩
            · rw [if_neg z, if_neg z]
              exact ev_tl tl c (opv x.1 v0 v1 :: r) d' h
        · rw [if_neg l] at h; cases h
theorem ev_one {vs : Nat → Int32} {c : List Ins} (h : okE c) : (ev vs c [] = none ∧ evE vs c = none) ∨ ∃ a, ev vs c [] = some [a] ∧ evE vs c = some a := by
  have e := ev_tl (vs := vs) [] c [] 1 h
  unfold evE
  cases q : ev vs c [] with
  | none => exact Or.inl ⟨rfl, rfl⟩
  | some st =>
    have := e.2 st q
    rcases st with _ | ⟨a, _ | ⟨b, r⟩⟩
    · simp at this
    · exact Or.inr ⟨a, rfl, rfl⟩
    · simp at this
theorem ev_on {vs : Nat → Int32} {c : List Ins} (h : okE c) (a : Int32) : ev vs c [a] = (ev vs c []).map (· ++ [a]) := (ev_tl (vs := vs) [a] c [] 1 h).1
