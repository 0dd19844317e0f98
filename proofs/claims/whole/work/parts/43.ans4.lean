/-! ===== a law's answer, held to 0 .. 99 ===== -/
theorem h99_c (v : Int32) : mxI 0 (mnI 99 v) = h99 v := by
  have t0 : (0 : Int32).toInt = 0 := by decide
  have t99 : (99 : Int32).toInt = 99 := by decide
  unfold mxI mnI h99
  by_cases a : v < 0
  · have b : v < 99 := by rw [Int32.lt_iff_toInt_lt] at a ⊢; omega
    have c : ¬ (0 : Int32) < v := fun q => by rw [Int32.lt_iff_toInt_lt] at a q; omega
    rw [if_pos b, if_neg c, if_pos a]
  · by_cases b : v < 99
    · have c : ¬ (99 : Int32) < v := fun q => by rw [Int32.lt_iff_toInt_lt] at b q; omega
      rw [if_pos b, if_neg a, if_neg c]
      by_cases d : (0 : Int32) < v
      · rw [if_pos d]
      · rw [if_neg d]
        apply Int32.toInt_inj.1
        rw [Int32.lt_iff_toInt_lt] at a d
        omega
    · rw [if_neg b, if_pos (by decide), if_neg a]
      by_cases d : (99 : Int32) < v
      · rw [if_pos d]
      · rw [if_neg d]
        apply Int32.toInt_inj.1
        rw [Int32.lt_iff_toInt_lt] at b d
        omega
theorem c_answerHeld {t : Nat} {T : Txt} {μ : Mem} (ht : 182 < t) (hT : okT T) (h : cT t T μ) {k : Nat} (hk : k < 4) : ∃ m, fX1_answerHeld (t + 6) (nI k) μ = some (lawV T k (μ.1 181), m) := by
  obtain ⟨E, E8, hE, hl⟩ := h.la
  obtain ⟨p, hp, law⟩ := hl k hk
  have ok := hT.la k hk
  have plt := cLaw_lt law
  obtain ⟨m, e⟩ := ans_law (K := fun μ12 => some (0, μ12)) (Or.inr (show 182 < t + 6 by omega)) E8 ok.2 (T.la k).1 p 4095 μ hE law ok.1 (by omega)
  refine ⟨m, ?_⟩
  unfold fX1_answerHeld fX2_answer
  rw [if_pos (inbN hk (by omega)), nI_clamp (by omega), nm_ap, show μ.1 (t + 6 + 3) k = nI p from hp]
  rw [show fX2_answer_11 (t + 6) (fun μ12 => some (0, μ12)) FU 0 (nI p) μ = some (evB (μ.1 181) (T.la k).2 (T.la k).1, m) from e, bind_s, h99_c]
  rfl
theorem ev_ext {vs ws : Nat → Int32} (hv : ∀ k, k < 9 → vs k = ws k) : ∀ (c : List Ins) (st : List Int32) (d d' : Nat), dpt c d = some d' → ev vs c st = ev ws c st
  | [], st, d, d', _ => by simp [ev]
  | x :: c, st, d, d', h => by
    rw [dpt] at h
    by_cases c0 : x.1 = 0
    · rw [if_pos c0] at h
      rw [ev_0 c0, ev_0 c0]
      by_cases l : d < 15
      · rw [if_pos l] at h; exact ev_ext hv c _ _ d' h
      · rw [if_neg l] at h; cases h
    · rw [if_neg c0] at h
      by_cases c1 : x.1 = 1
      · rw [if_pos c1] at h
        by_cases l : d < 15 ∧ x.2 < 9
        · rw [if_pos l] at h
          rw [ev_1 c1, ev_1 c1, hv _ l.2]; exact ev_ext hv c _ _ d' h
        · rw [if_neg l] at h; cases h
      · rw [if_neg c1] at h
        by_cases l : 2 ≤ d ∧ x.1 ≤ 5
        · rw [if_pos l] at h
          rcases st with _ | ⟨v1, _ | ⟨v0, r⟩⟩
          · simp [ev, c0, c1]
          · simp [ev, c0, c1]
          · rw [ev_2 c0 c1, ev_2 c0 c1, ev_ext hv c _ _ d' h]
        · rw [if_neg l] at h; cases h
theorem evE_ext {vs ws : Nat → Int32} (hv : ∀ k, k < 9 → vs k = ws k) {c : List Ins} (h : okE c) : evE vs c = evE ws c := by
  unfold evE; rw [ev_ext hv c [] 0 1 h]
theorem evB_ext {vs ws : Nat → Int32} (hv : ∀ k, k < 9 → vs k = ws k) {las : List Ins} (hl : okE las) : ∀ {r : List (List Ins × List Ins × List Ins)}, (∀ b, b ∈ r → okE b.1 ∧ okE b.2.1 ∧ okE b.2.2) → evB vs las r = evB ws las r
  | [], _ => by rw [evB, evB, evE_ext hv hl]
  | b :: r, h => by
    obtain ⟨k1, k2, k3⟩ := h b (List.mem_cons_self ..)
    rw [evB, evB, evE_ext hv k1, evE_ext hv k2, evE_ext hv k3, evB_ext hv hl (fun q hq => h q (List.mem_cons_of_mem _ hq))]
theorem lawV_ext {T : Txt} (hT : okT T) {k : Nat} (hk : k < 4) {vs ws : Nat → Int32} (hv : ∀ k, k < 9 → vs k = ws k) : lawV T k vs = lawV T k ws := by
  unfold lawV
  rw [evB_ext hv (hT.la k hk).2 (hT.la k hk).1]
