/-! ===== the two objects, just made ===== -/
def T0 : Txt := Txt.mk 0 0 (fun _ => 0) (fun _ => 0) (fun _ => 0) (fun _ => 0) (fun _ => 0) (fun _ _ => false) 100 0 dfl (fun _ => false)
def S0 : St := St.mk (fun _ => 9) (fun _ => 0) (fun _ => false) (fun _ => 0) (fun _ => false) 0 0
def A0 : Abs := Abs.mk T0 S0 0 (fun _ => S0) (fun _ => none) 0 (fun _ => 0) (fun _ => false) 0 (fun _ => 0) (-1) 0
def iniR : Option (Mem × Mem) := (fX10_init_0 (zM μz 0)).bind fun m0 => (fX11_init (zM m0 243)).bind fun m1 => some (m0, m1)
abbrev iniP (m : Mem) : Prop :=
  (m.1 1 1 = 0 ∧ m.1 3 1 = -1 ∧ m.1 17 0 = 0 ∧ m.1 17 2 = 0 ∧ m.1 0 11 = 0 ∧ m.1 196 0 = 0) ∧
  (∀ j, j < 4 → m.1 9 j = 0) ∧ (∀ j, j < 4 → m.1 10 j = 0) ∧ (∀ j, j < 4 → m.1 11 j = 0) ∧ (∀ j, j < 7 → m.1 12 j = 0) ∧
  (m.1 199 0 = 0 ∧ m.1 199 3 = 0 ∧ m.1 199 8 = 100 ∧ m.1 199 9 = 0 ∧ m.1 211 0 = 1 ∧ m.1 205 3 = 8) ∧
  (m.1 208 0 = 0 ∧ m.1 208 1 = 2 ∧ m.1 208 2 = 4 ∧ m.1 208 3 = 6) ∧
  (m.1 206 0 = 13 ∧ m.1 206 1 = 0 ∧ m.1 206 2 = 13 ∧ m.1 206 3 = 0 ∧ m.1 206 4 = 3 ∧ m.1 206 5 = 0 ∧ m.1 206 6 = 13 ∧ m.1 206 7 = 0) ∧
  (m.1 207 0 = 0 ∧ m.1 207 2 = 1 ∧ m.1 207 4 = 1 ∧ m.1 207 6 = 5) ∧
  (∀ w, w < 21 → m.2 8 w = lN (pkw 32 (wordL.getD w []))) ∧
  (m.1 243 2 = 0 ∧ m.1 243 17 = -1 ∧ m.1 243 18 = 0 ∧ m.1 243 56 = 0 ∧ m.1 243 62 = 0) ∧
  (m.1 253 0 = 0 ∧ m.1 256 0 = 0 ∧ m.1 262 0 = 100 ∧ m.1 263 0 = 0) ∧
  (∀ k, k < 4 → m.1 264 k = 0 ∧ m.1 265 k = 0) ∧
  (∀ g, g < 7 → m.1 276 g = -2) ∧ (∀ g, g < 24 → m.1 276 (7 + g) = 0) ∧
  (∀ i, i < 3 → m.1 287 i = 0) ∧
  (∀ w, w < 21 → m.2 250 w = lN (pkw 27 (wordL.getD w [])))
theorem iniOK : (iniR.map fun q => decide (iniP q.2)) = some true := by decide +kernel
theorem iniGet : ∃ m0 m1, fX10_init_0 (zM μz 0) = some m0 ∧ fX11_init (zM m0 243) = some m1 ∧ iniP m1 := by
  have h := iniOK
  unfold iniR at h
  cases h0 : fX10_init_0 (zM μz 0) with
  | none => rw [h0] at h; cases h
  | some m0 =>
    rw [h0, bind_s] at h
    cases h1 : fX11_init (zM m0 243) with
    | none => rw [h1] at h; cases h
    | some m1 =>
      rw [h1, bind_s] at h
      refine ⟨m0, m1, rfl, h1, ?_⟩
      have h2 : some (decide (iniP m1)) = some true := h
      exact of_decide_eq_true (Option.some.inj h2)
theorem okT0 : okT T0 := by
  refine ⟨by decide, by decide, ?_, ?_, fun _ _ => rfl, fun _ => rfl, ?_, by decide, by decide, ?_, fun _ _ _ => rfl⟩
  · intro s hs; exact absurd hs (Nat.not_lt_zero s)
  · intro s hs; exact absurd hs (Nat.not_lt_zero s)
  · intro g o h; cases h
  · intro k hk
    refine ⟨fun b hb => ?_, ?_⟩
    · cases hb
    · rcases k with _ | _ | _ | _ | k
      · exact (rfl : dpt [(1, 0)] 0 = some 1)
      · exact (rfl : dpt [(1, 1)] 0 = some 1)
      · exact (rfl : dpt [(0, 1)] 0 = some 1)
      · exact (rfl : dpt [(1, 5)] 0 = some 1)
      · omega
theorem okS0 : okS T0 S0 := by
  refine ⟨fun _ => Or.inl rfl, ?_, fun _ => (by decide : 0 ≤ 999), fun _ => (by decide : 0 ≤ 99), ?_, ?_⟩
  · intro g o _ h; exact absurd h (by decide : ¬ 9 < 9)
  · intro g h; cases h
  · intro g h; cases h
theorem okA0 : okA A0 := by
  refine ⟨okT0, okS0, by decide, ?_, ?_, by decide, ?_, by decide, ?_, by decide⟩
  · intro i hi; exact absurd hi (Nat.not_lt_zero i)
  · intro i s h; cases h
  · intro i hi; exact absurd hi (Nat.not_lt_zero i)
  · intro j; exact (by decide : ((0 : Int32).toInt8.toInt32 = 0))
theorem inB0 (s : Nat) (hs : s < 4) : inB S0 s = 0 := by
  unfold inB
  rw [bs_zero]
  intro g _
  show ((9 : Nat) == s) = false
  simp; omega
theorem sp_INI : INI Inv := by
  obtain ⟨m0, m, h0, h1, P1, P2, P3, P4, P5, P6, P7, P8, P9, P10, P11, P12, P13, P14, P15, P16, P17⟩ := iniGet
  refine ⟨m0, m, h0, h1, A0, okA0, ?_, ?_⟩
  · refine ⟨P1.1, ?_, P1.2.1, ?_, ?_, P1.2.2.1, ⟨0, by decide, P1.2.2.2.1, ?_⟩, P1.2.2.2.2.1, ?_, P1.2.2.2.2.2, ?_, ?_, P10⟩
    · intro j hj; exact absurd hj (Nat.not_lt_zero j)
    · refine ⟨P6.1, P6.2.1, ?_, ?_, ?_, ?_, ?_, P6.2.2.1, P6.2.2.2.1, ?_, ?_, ?_, ⟨8, by decide, P6.2.2.2.2.2, ?_⟩⟩
      · intro s hs; exact absurd hs (Nat.not_lt_zero s)
      · intro s hs; exact absurd hs (Nat.not_lt_zero s)
      · intro s hs; exact absurd hs (Nat.not_lt_zero s)
      · intro s hs; exact absurd hs (Nat.not_lt_zero s)
      · intro s hs; exact absurd hs (Nat.not_lt_zero s)
      · intro s hs; exact absurd hs (Nat.not_lt_zero s)
      · intro s hs; exact absurd hs (Nat.not_lt_zero s)
      · intro k hk
        have : k = 0 := by have : k < 2 ^ 0 := hk; omega
        subst this
        refine Or.inl ⟨P6.2.2.2.2.1, ?_⟩
        intro g hg; exact absurd hg (Nat.not_lt_zero g)
      · intro k hk
        rcases k with _ | _ | _ | _ | k
        · exact ⟨0, P7.1, ⟨P8.1, fun _ => P9.1, trivial⟩, P8.2.1, by decide⟩
        · exact ⟨2, P7.2.1, ⟨P8.2.2.1, fun _ => P9.2.1, trivial⟩, P8.2.2.2.1, by decide⟩
        · exact ⟨4, P7.2.2.1, ⟨P8.2.2.2.2.1, fun _ => P9.2.2.1, trivial⟩, P8.2.2.2.2.2.1, by decide⟩
        · exact ⟨6, P7.2.2.2, ⟨P8.2.2.2.2.2.2.1, fun _ => P9.2.2.2, trivial⟩, P8.2.2.2.2.2.2.2, by decide⟩
        · omega
    · refine ⟨P2 0 (by decide), P2 1 (by decide), ?_, ?_, ?_, P4, P5⟩
      · rw [show bs A0.S.dd 7 = 0 from bs_zero.2 (fun _ _ => rfl)]; exact P2 2 (by decide)
      · rw [show bs A0.S.sd 4 = 0 from bs_zero.2 (fun _ _ => rfl)]; exact P2 3 (by decide)
      · intro s hs
        show m.1 10 s = nI (inB S0 s)
        rw [inB0 s hs]; exact P3 s hs
    · intro i hi; exact absurd hi (Nat.not_lt_zero i)
    · intro i s _ h; cases h
    · intro i hi; exact absurd hi (Nat.not_lt_zero i)
    · intro i hi; exact absurd hi (Nat.not_lt_zero i)
  · refine ⟨P11.1, ?_, P11.2.1, P11.2.2.1, ?_, ?_, P11.2.2.2.1, ?_, P16, ?_, P11.2.2.2.2, ?_, ?_, P17⟩
    · intro j hj; exact absurd hj (Nat.not_lt_zero j)
    · refine ⟨P12.1, P12.2.1, ?_, ?_, ?_, ?_, ?_, ?_, P12.2.2.1, P12.2.2.2, ?_⟩
      · intro s hs; exact absurd hs (Nat.not_lt_zero s)
      · intro s hs; exact absurd hs (Nat.not_lt_zero s)
      · intro s hs; exact absurd hs (Nat.not_lt_zero s)
      · intro s hs; exact absurd hs (Nat.not_lt_zero s)
      · intro s hs; exact absurd hs (Nat.not_lt_zero s)
      · intro s hs; exact absurd hs (Nat.not_lt_zero s)
      · intro k hk
        refine ⟨0, 0, ?_, ?_, Or.inl ⟨rfl, rfl, by decide⟩⟩
        · show m.1 264 (4 * 0 + k) = _
          rw [show 4 * 0 + k = k by omega]; exact (P13 k hk).1
        · show m.1 265 (4 * 0 + k) = _
          rw [show 4 * 0 + k = k by omega]; exact (P13 k hk).2
    · refine ⟨?_, ?_, ?_, ?_, ?_, ?_, ?_⟩
      · intro g hg; rw [Nat.zero_add]; exact P14 g hg
      · intro g hg; rw [Nat.zero_add]; exact P15 g (by omega)
      · intro g hg; rw [Nat.zero_add]; have := P15 (7 + g) (by omega); rwa [show 7 + (7 + g) = 14 + g by omega] at this
      · intro g hg; rw [Nat.zero_add]; have := P15 (14 + g) (by omega); rwa [show 7 + (14 + g) = 21 + g by omega] at this
      · intro g hg; rw [Nat.zero_add]; have := P15 (18 + g) (by omega); rwa [show 7 + (18 + g) = 25 + g by omega] at this
      · exact P15 22 (by decide)
      · exact P15 23 (by decide)
    · intro i hi; exact absurd hi (Nat.not_lt_zero i)
    · intro i s _ h; cases h
    · intro i hi; exact absurd hi (Nat.not_lt_zero i)
    · intro i hi; exact absurd hi (Nat.not_lt_zero i)
