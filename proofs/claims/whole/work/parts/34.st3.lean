/-! ===== at ===== -/
def isTh (T : Txt) (g h : Nat) : Bool := decide (T.hr g ≤ h) && decide (h < T.hr g + T.hs g)
theorem c_isThere {t : Nat} {T : Txt} {μ : Mem} (h : cT t T μ) (hT : okT T) {g k : Nat} (hg : g < T.nG) (hk : k < 2 ^ 31) : fX7_isThere t (nI g) (nI k) μ = some (isTh T g k) := by
  have g7 := hT.g7
  have gg := hT.gu g hg
  unfold fX7_isThere isTh
  have hb : inb (nI g) 7 := inbN (by omega) (by omega)
  have hcl : (nI g).toNatClampNeg = g := nI_clamp (by omega)
  simp only [if_pos hb, hcl]
  rw [h.hr g hg, h.hs g hg, nI_add]
  by_cases c : k < T.hr g
  · rw [if_pos ((nI_ltI (by omega) (by omega)).2 c)]; simp; omega
  · rw [if_neg (fun q => c ((nI_ltI (by omega) (by omega)).1 q))]
    by_cases d : k < T.hr g + T.hs g
    · rw [if_pos ((nI_ltI (by omega) (by omega)).2 d)]; simp; omega
    · rw [if_neg (fun q => d ((nI_ltI (by omega) (by omega)).1 q))]; simp [d]
theorem r_isTh {v : Nat} {T : Txt} {μ : Mem} (h : rX v T μ) {g k : Nat} (hg : g < T.nG) (hk : k < 2 ^ 31) : fX11_in (nI k) (nI (T.hr g)) (nI (T.hr g + T.hs g) - 1) μ = some (isTh T g k) := by
  have gg := h.2.2.1.gu g hg
  rw [in_eq]
  unfold isTh
  have e1 : nI k < nI (T.hr g) ↔ k < T.hr g := nI_ltI (by omega) (by omega)
  have e2 : nI (T.hr g + T.hs g) - 1 < nI k ↔ T.hr g + T.hs g ≤ k := lt_m1 (by omega) hk
  simp only [e1, e2]
  simp
/-- who is in a Sunday at an hour: the first; else the number of guests -/
def whoN (T : Txt) (S : St) (s h : Nat) : Nat := ffd (fun g => (S.wh g == s) && isTh T g h) T.nG 0
def whoV (T : Txt) (S : St) (s h : Nat) : Int32 := if whoN T S s h < T.nG then nI (whoN T S s h) else -2
theorem r_whoIsAt {v : Nat} {T : Txt} {S : St} {μ : Mem} (h : rX v T μ) (hS : rS 277 0 S μ) (ok : okS T S) {s k : Nat} (hs : s < 9) (hk : k < 2 ^ 31) : fX11_whoIsAt (nI s) (nI k) μ = some (whoV T S s k) := by
  have g7 := h.2.2.1.g7
  have v1 := h.2.1
  have e : ∀ g, g < 7 → μ.1 277 g = whI (S.wh g) := by intro g hg; have := hS.wh g hg; rwa [Nat.zero_add] at this
  have w9 : ∀ g, S.wh g < 9 ∨ S.wh g = 9 := fun g => by have := ok.w9 h.2.2.1 g; omega
  unfold fX11_whoIsAt
  rw [lfind (L := fun n i => fX11_whoIsAt_2 (nI s) (nI k) μ (fun _ => some (-2)) n i) (X := some (-2)) T.nG (fun g => (S.wh g == s) && isTh T g k) (fun g => some (nI g)) (by omega)
    (by
      intro n i hi hp
      simp only [Bool.and_eq_true] at hp
      show fX11_whoIsAt_2 (nI s) (nI k) μ (fun _ => some (-2)) (n + 1) (nI i) = _
      rw [fX11_whoIsAt_2, h.1, if_pos (inbN (by omega) (by omega)), nI_clamp (by omega), h.2.2.2.nG, if_pos (nI_lt hi (by omega)), if_pos (inbN (by omega) (by omega)), nI_clamp (by omega), e i (by omega), if_pos ((whI_eq hs (w9 i)).2 (by simpa using hp.1)), r_fromAt h hi, bind_s, r_tillAt h hi, bind_s, r_isTh h hi hk, bind_s, if_pos hp.2])
    (by
      intro n i hi hp
      show fX11_whoIsAt_2 (nI s) (nI k) μ (fun _ => some (-2)) (n + 1) (nI i) = _
      rw [fX11_whoIsAt_2, h.1, if_pos (inbN (by omega) (by omega)), nI_clamp (by omega), h.2.2.2.nG, if_pos (nI_lt hi (by omega)), if_pos (inbN (by omega) (by omega)), nI_clamp (by omega), e i (by omega)]
      by_cases c : S.wh i = s
      · have hp2 : isTh T i k = false := by simpa [c] using hp
        rw [if_pos ((whI_eq hs (w9 i)).2 c), r_fromAt h hi, bind_s, r_tillAt h hi, bind_s, r_isTh h hi hk, bind_s, if_neg (by rw [hp2]; decide), nI_1]
      · rw [if_neg (fun q => c ((whI_eq hs (w9 i)).1 q)), nI_1])
    (by
      intro n
      show fX11_whoIsAt_2 (nI s) (nI k) μ (fun _ => some (-2)) (n + 1) (nI T.nG) = _
      rw [fX11_whoIsAt_2, h.1, if_pos (inbN (by omega) (by omega)), nI_clamp (by omega), h.2.2.2.nG, if_neg (nI_nlt (by omega) (by omega))])]
  unfold whoV whoN
  split <;> rfl
theorem c_whoAt {A : Abs} {μ : Mem} (hA : okA A) (h : CInv A μ) {s k : Nat} (hs : s < 4) (hk : k < 2 ^ 31) : fX10_at_29 (nI s) (nI k) μ (fun _ => some (-2)) FU 0 = some (whoV A.T A.S s k) := by
  have g7 := hA.T.g7
  rw [lfind (L := fun n i => fX10_at_29 (nI s) (nI k) μ (fun _ => some (-2)) n i) (X := some (-2)) A.T.nG (fun g => (A.S.wh g == s) && isTh A.T g k) (fun g => some (nI g)) (by omega)
    (by
      intro n i hi hp
      simp only [Bool.and_eq_true] at hp
      show fX10_at_29 (nI s) (nI k) μ (fun _ => some (-2)) (n + 1) (nI i) = _
      rw [fX10_at_29, h.T.nG, if_pos (nI_lt hi (by omega)), c_isIn h.S (by omega) hs, bind_s, if_pos hp.1, c_isThere h.T hA.T hi hk, bind_s, if_pos hp.2])
    (by
      intro n i hi hp
      show fX10_at_29 (nI s) (nI k) μ (fun _ => some (-2)) (n + 1) (nI i) = _
      rw [fX10_at_29, h.T.nG, if_pos (nI_lt hi (by omega)), c_isIn h.S (by omega) hs, bind_s]
      by_cases c : (A.S.wh i == s) = true
      · have hp2 : isTh A.T i k = false := by simpa [c] using hp
        rw [if_pos c, c_isThere h.T hA.T hi hk, bind_s, if_neg (by rw [hp2]; decide), nI_1]
      · rw [if_neg c, nI_1])
    (by
      intro n
      show fX10_at_29 (nI s) (nI k) μ (fun _ => some (-2)) (n + 1) (nI A.T.nG) = _
      rw [fX10_at_29, h.T.nG, if_neg (nI_nlt (by omega) (by omega))])]
  unfold whoV whoN
  split <;> rfl
theorem sp_at : st_at Inv := by
  intro μ a1 a2 ⟨A, hA, hc, hr⟩
  have g7 := hA.T.g7
  have s4 := hA.T.s4
  have hx := hr.rX hA
  have v1 := hA.lv
  rcases pk_ix a1 (n := A.T.nS) (by omega) with h | h | ⟨s, hs, rfl⟩
  · exact qpm hA hc hr (-1) (by unfold fX10_at; rw [c_isSunday_no hc (Or.inl h) s4, bind_s, if_neg (by decide)]) ⟨μ, by unfold fX11_at; rw [r_isSunday_no hx (Or.inl h), bind_s, if_neg (by decide)]⟩ (frX11_at a1 a2 μ) (by decide) (by decide)
  · exact qpm hA hc hr (-1) (by unfold fX10_at; rw [c_isSunday_no hc (Or.inr h) s4, bind_s, if_neg (by decide)]) ⟨μ, by unfold fX11_at; rw [r_isSunday_no hx (Or.inr h), bind_s, if_neg (by decide)]⟩ (frX11_at a1 a2 μ) (by decide) (by decide)
  · have ss := hA.T.su s hs
    have q : ∀ X, fX11_at (nI s) a2 μ = X ↔ (if decide (¬ a2 < 0 ∧ ¬ nI (A.T.lo s) - 1 < a2) = true then (fX11_copies μ).bind fun q3 => (fX11_whoIsAt (nI s) a2 q3).bind fun q4 => some (q4, q3) else some (-1, μ)) = X := by
      intro X
      unfold fX11_at
      rw [r_isSunday_yes hx hs, bind_s, if_pos rfl, hx.1, ix4, if_pos (inbN (by omega) (by omega)), nI_clamp (by omega), hr.T.lo s hs, in_eq, bind_s]
    by_cases h1 : a2 < 0
    · refine qpm hA hc hr (-1) ?_ ⟨μ, ?_⟩ (frX11_at _ a2 μ) (by decide) (by decide)
      · unfold fX10_at; rw [c_isSunday_yes hc hs s4, bind_s, if_pos rfl, if_pos h1]
      · rw [q, if_neg (by simp [h1])]
    obtain ⟨k, hk, rfl⟩ := nI_of h1
    by_cases h2 : k < A.T.lo s
    · obtain ⟨m, e1, e2, e3, _⟩ := r_copies hA hr
      refine qpm hA hc hr (whoV A.T A.S s k) ?_ ⟨m, ?_⟩ (frX11_at _ _ μ) (by decide) (by decide)
      · unfold fX10_at; rw [c_isSunday_yes hc hs s4, bind_s, if_pos rfl, if_neg h1, if_pos (inbN (by omega) (by omega)), nI_clamp (by omega), hc.T.lo s hs, if_pos ((nI_ltI (by omega) (by omega)).2 h2), c_whoAt hA hc (by omega) hk]
      · have h3 : ¬ nI (A.T.lo s) - 1 < nI k := fun w => by have := (lt_m1 (n := A.T.lo s) (by omega) hk).1 w; omega
        rw [q, if_pos (by simp [h1, h3]), e1, bind_s, r_whoIsAt (e3.rX hA) e2 hA.S (by omega) hk, bind_s]
    · refine qpm hA hc hr (-1) ?_ ⟨μ, ?_⟩ (frX11_at _ _ μ) (by decide) (by decide)
      · unfold fX10_at; rw [c_isSunday_yes hc hs s4, bind_s, if_pos rfl, if_neg h1, if_pos (inbN (by omega) (by omega)), nI_clamp (by omega), hc.T.lo s hs, if_neg (fun w => h2 ((nI_ltI (by omega) (by omega)).1 w))]
      · have h3 : nI (A.T.lo s) - 1 < nI k := (lt_m1 (n := A.T.lo s) (by omega) hk).2 (by omega)
        rw [q, if_neg (by simp [h3])]
