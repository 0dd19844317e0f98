/-! ===== the reference's small questions ===== -/
theorem ix7 (v g : Nat) : (7 : Int32) * nI v + nI g = nI (7 * v + g) := by rw [L_7, pk_mul, nI_add]
theorem ix4 (v g : Nat) : (4 : Int32) * nI v + nI g = nI (4 * v + g) := by rw [L_4, pk_mul, nI_add]
theorem lt_m1 {n s : Nat} (hn : n < 2 ^ 30) (hs : s < 2 ^ 31) : nI n - 1 < nI s ↔ n ≤ s := by
  rw [Int32.lt_iff_toInt_lt, L_1, pk_sub_toInt hn (by omega), nI_toInt hs]
  omega
abbrev rX (v : Nat) (T : Txt) (μ : Mem) : Prop := μ.1 243 18 = nI v ∧ v ≤ 1 ∧ okT T ∧ rT v T μ
theorem RInv.rX {A : Abs} {μ : Mem} (h : RInv A μ) (hA : okA A) : rX A.lv A.T μ := ⟨h.lv, hA.lv, hA.T, h.T⟩
theorem r_isGuest_no {v : Nat} {T : Txt} {μ : Mem} (h : rX v T μ) {x : Int32} (hx : x < 0 ∨ nI T.nG ≤ x) : fX11_isGuest x μ = some false := by
  obtain ⟨hv, v1, hT, hr⟩ := h
  have g7 := hT.g7
  unfold fX11_isGuest
  rw [hv, if_pos (inbN (by omega) (by omega)), nI_clamp (by omega), hr.nG, in_eq, bind_s]
  by_cases h1 : x < 0
  · simp [h1]
  · obtain ⟨n, hn2, rfl⟩ := nI_of h1
    rcases hx with hx | hx
    · exact absurd hx h1
    · have h2 := (nI_leI (by omega) hn2).1 hx
      have h3 := (lt_m1 (n := T.nG) (by omega) hn2).2 h2
      simp [h3]
theorem r_isGuest_yes {v : Nat} {T : Txt} {μ : Mem} (h : rX v T μ) {g : Nat} (hg : g < T.nG) : fX11_isGuest (nI g) μ = some true := by
  obtain ⟨hv, v1, hT, hr⟩ := h
  have g7 := hT.g7
  unfold fX11_isGuest
  rw [hv, if_pos (inbN (by omega) (by omega)), nI_clamp (by omega), hr.nG, in_eq, bind_s]
  have h1 : ¬ nI g < 0 := nI_pos (by omega)
  have h3 : ¬ nI T.nG - 1 < nI g := fun q => by have := (lt_m1 (n := T.nG) (s := g) (by omega) (by omega)).1 q; omega
  simp [h1, h3]
theorem r_isSunday_no {v : Nat} {T : Txt} {μ : Mem} (h : rX v T μ) {x : Int32} (hx : x < 0 ∨ nI T.nS ≤ x) : fX11_isSunday x μ = some false := by
  obtain ⟨hv, v1, hT, hr⟩ := h
  have g7 := hT.s4
  unfold fX11_isSunday
  rw [hv, if_pos (inbN (by omega) (by omega)), nI_clamp (by omega), hr.nS, in_eq, bind_s]
  by_cases h1 : x < 0
  · simp [h1]
  · obtain ⟨n, hn2, rfl⟩ := nI_of h1
    rcases hx with hx | hx
    · exact absurd hx h1
    · have h2 := (nI_leI (by omega) hn2).1 hx
      have h3 := (lt_m1 (n := T.nS) (by omega) hn2).2 h2
      simp [h3]
theorem r_isSunday_yes {v : Nat} {T : Txt} {μ : Mem} (h : rX v T μ) {g : Nat} (hg : g < T.nS) : fX11_isSunday (nI g) μ = some true := by
  obtain ⟨hv, v1, hT, hr⟩ := h
  have g7 := hT.s4
  unfold fX11_isSunday
  rw [hv, if_pos (inbN (by omega) (by omega)), nI_clamp (by omega), hr.nS, in_eq, bind_s]
  have h1 : ¬ nI g < 0 := nI_pos (by omega)
  have h3 : ¬ nI T.nS - 1 < nI g := fun q => by have := (lt_m1 (n := T.nS) (s := g) (by omega) (by omega)).1 q; omega
  simp [h1, h3]
theorem r_fromAt {v : Nat} {T : Txt} {μ : Mem} (h : rX v T μ) {g : Nat} (hg : g < T.nG) : fX11_fromAt (nI g) μ = some (nI (T.hr g)) := by
  obtain ⟨hv, v1, hT, hr⟩ := h
  have g7 := hT.g7
  unfold fX11_fromAt
  rw [hv, ix7, if_pos (inbN (by omega) (by omega)), nI_clamp (by omega), hr.hr g hg]
theorem r_tillAt {v : Nat} {T : Txt} {μ : Mem} (h : rX v T μ) {g : Nat} (hg : g < T.nG) : fX11_tillAt (nI g) μ = some (nI (T.hr g + T.hs g)) := by
  obtain ⟨hv, v1, hT, hr⟩ := h
  have g7 := hT.g7
  unfold fX11_tillAt
  rw [hv, ix7, if_pos (inbN (by omega) (by omega)), if_pos (inbN (by omega) (by omega)), nI_clamp (by omega), hr.hr g hg, hr.hs g hg, nI_add]
theorem r_doClash {v : Nat} {T : Txt} {μ : Mem} (h : rX v T μ) {g o : Nat} (hg : g < T.nG) (ho : o < T.nG) : fX11_doClash (nI g) (nI o) μ = some (clash T g o) := by
  have g7 := h.2.2.1.g7
  have gg := h.2.2.1.gu g hg
  have oo := h.2.2.1.gu o ho
  unfold fX11_doClash
  by_cases e : g = o
  · subst e
    rw [if_pos rfl]; unfold clash; simp
  rw [if_neg (fun q => e ((nI_eq (by omega) (by omega)).1 q)), h.1, ix7, if_pos (inbN (by omega) (by omega)), nI_clamp (by omega), h.2.2.2.fo g hg, nI_bit (bs_lt31 _ (by omega)) (by omega)]
  have hb : (bs (T.fo g) T.nG).testBit o = T.fo g o := by rw [bs_bit]; simp [ho]
  unfold clash
  have eb : (g == o) = false := by simpa using e
  rw [eb]
  cases hf : T.fo g o with
  | true => rw [if_pos (bit_one.2 (by rw [hb, hf]))]; rfl
  | false =>
    rw [if_neg (fun q => by have := bit_one.1 q; rw [hb, hf] at this; cases this), r_fromAt h hg, bind_s, r_tillAt h ho, bind_s]
    by_cases c1 : T.hr g < T.hr o + T.hs o
    · rw [if_pos ((nI_ltI (by omega) (by omega)).2 c1), r_fromAt h ho, bind_s, r_tillAt h hg, bind_s]
      by_cases c2 : T.hr o < T.hr g + T.hs g
      · rw [if_pos ((nI_ltI (by omega) (by omega)).2 c2)]; simp [c1, c2]
      · rw [if_neg (fun q => c2 ((nI_ltI (by omega) (by omega)).1 q))]; simp [c2]
    · rw [if_neg (fun q => c1 ((nI_ltI (by omega) (by omega)).1 q))]; simp [c1]
theorem r_clashBits {v : Nat} {T : Txt} {μ : Mem} (h : rX v T μ) {g : Nat} (hg : g < T.nG) : fX11_clashBits (nI g) μ = some (nI (clB T g)) := by
  have g7 := h.2.2.1.g7
  unfold fX11_clashBits
  refine lbits (L := fun n a i => fX11_clashBits_4 (nI g) μ (fun y3 => some y3) n a i) (K := fun y => some y) T.nG (clash T g) (by omega) ?_ ?_ ?_
  · intro n i m hi hm hp
    rw [fX11_clashBits_4, h.1, if_pos (inbN (by have := h.2.1; omega) (by omega)), nI_clamp (by have := h.2.1; omega), h.2.2.2.nG, if_pos (nI_lt hi (by omega)), r_doClash h hg hi, bind_s, if_pos hp, nm_ap, nI_shl i (by omega), nI_or, nI_1]
  · intro n i m hi hm hp
    rw [fX11_clashBits_4, h.1, if_pos (inbN (by have := h.2.1; omega) (by omega)), nI_clamp (by have := h.2.1; omega), h.2.2.2.nG, if_pos (nI_lt hi (by omega)), r_doClash h hg hi, bind_s, if_neg (by rw [hp]; decide), nI_1]
  · intro n m hm
    rw [fX11_clashBits_4, h.1, if_pos (inbN (by have := h.2.1; omega) (by omega)), nI_clamp (by have := h.2.1; omega), h.2.2.2.nG, if_neg (nI_nlt (by omega) (by omega))]
theorem sp_rivals : st_rivals Inv := by
  intro μ a1 ⟨A, hA, hc, hr⟩
  have g7 := hA.T.g7
  have hx := hr.rX hA
  unfold fX10_rivals fX11_rivals
  rcases pk_ix a1 (n := A.T.nG) (by omega) with h | h | ⟨g, hg, rfl⟩
  · exact ⟨-1, by rw [c_isGuest_no hc (Or.inl h) g7, bind_s, if_neg (by decide)], by rw [r_isGuest_no hx (Or.inl h), bind_s, if_neg (by decide)]⟩
  · exact ⟨-1, by rw [c_isGuest_no hc (Or.inr h) g7, bind_s, if_neg (by decide)], by rw [r_isGuest_no hx (Or.inr h), bind_s, if_neg (by decide)]⟩
  · refine ⟨nI (clB A.T g), ?_, ?_⟩
    · rw [c_isGuest_yes hc hg g7, bind_s, if_pos rfl, if_pos (inbN (by omega) (by omega)), nI_clamp (by omega), hc.T.cl g hg]
    · rw [r_isGuest_yes hx hg, bind_s, if_pos rfl, r_clashBits hx hg, bind_s]
