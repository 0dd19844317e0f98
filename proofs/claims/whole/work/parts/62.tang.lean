/-! ===== tangle ===== -/
def tgB (T : Txt) (m g : Nat) : Bool := m.testBit g && !decide (m ^^^ (m &&& clB T g) = 2 ^ g)
def isTg (T : Txt) (m : Nat) : Bool := !decide (ffd (tgB T m) T.nG 0 < T.nG)
theorem clB_bit {T : Txt} {g o : Nat} (ho : o < T.nG) : (clB T g).testBit o = clash T g o := by unfold clB; rw [bs_bit]; simp [ho]
theorem tg_eq {T : Txt} {m g : Nat} (hg : g < T.nG) (hm : m.testBit g = true) : (m ^^^ (m &&& clB T g) = 2 ^ g) ↔ isSub (m ^^^ (m &&& 2 ^ g)) (clB T g) := by
  have cg : (clB T g).testBit g = false := by rw [clB_bit hg, clash_self]
  constructor
  · intro h
    apply isSub.of
    intro i hi
    have hb : (m ^^^ (m &&& clB T g)).testBit i = (2 ^ g).testBit i := by rw [h]
    rw [Nat.testBit_xor, Nat.testBit_and, Nat.testBit_two_pow] at hi
    rw [Nat.testBit_xor, Nat.testBit_and, Nat.testBit_two_pow] at hb
    by_cases c : g = i
    · subst c; rw [hm] at hi; simp at hi
    · simp [c] at hb hi
      rw [hi] at hb
      simpa using hb
  · intro h
    apply Nat.eq_of_testBit_eq
    intro i
    rw [Nat.testBit_xor, Nat.testBit_and, Nat.testBit_two_pow]
    by_cases c : g = i
    · subst c; rw [hm, cg]; simp
    · simp only [c, decide_false]
      cases a : m.testBit i with
      | false => rfl
      | true =>
        have : (clB T g).testBit i = true := h.bit (by rw [Nat.testBit_xor, Nat.testBit_and, Nat.testBit_two_pow, a]; simp [c])
        rw [this]; rfl
theorem c_isTangle {t : Nat} {T : Txt} {μ : Mem} (h : cT t T μ) (hT : okT T) {m : Nat} (hm : m < 128) : fX3_isTangle t (nI m) μ = some (isTg T m) := by
  have g7 := hT.g7
  unfold fX3_isTangle
  have step : ∀ n i, i < T.nG → fX3_isTangle_2 t (nI m) μ (fun _ => some true) (n + 1) (nI i) = if tgB T m i = true then some false else fX3_isTangle_2 t (nI m) μ (fun _ => some true) n (nI (i + 1)) := by
    intro n i hi
    have hb : inb (nI i) 7 := inbN (by omega) (by omega)
    have hcl : (nI i).toNatClampNeg = i := nI_clamp (by omega)
    have p7 : 2 ^ i < 2 ^ 31 := Nat.pow_lt_pow_right (by decide) (by omega)
    have lt : m ^^^ (m &&& clB T i) < 2 ^ 7 := Nat.xor_lt_two_pow hm (Nat.lt_of_le_of_lt Nat.and_le_left hm)
    rw [fX3_isTangle_2, h.nG, if_pos (nI_lt hi (by omega)), nI_bit (by omega) (by omega)]
    simp only [if_pos hb, hcl]
    rw [h.cl i hi, nI_dif, nI_shl i (by omega), nI_1]
    unfold tgB
    cases c : m.testBit i with
    | true =>
      rw [if_pos (bit_one.2 c)]
      by_cases d : m ^^^ (m &&& clB T i) = 2 ^ i
      · rw [if_pos (by rw [d]), if_neg (by simp [d])]
      · rw [if_neg (fun q => d ((nI_eq (by omega) p7).1 q)), if_pos (by simp [d])]
    | false => rw [if_neg (fun q => by rw [bit_one.1 q] at c; cases c), if_neg (by simp)]
  rw [lfind (L := fun n i => fX3_isTangle_2 t (nI m) μ (fun _ => some true) n i) (X := some true) T.nG (tgB T m) (fun _ => some false) (by omega)
    (by intro n i hi hp; show fX3_isTangle_2 _ _ _ _ _ _ = _; rw [step n i hi, if_pos hp])
    (by intro n i hi hp; show fX3_isTangle_2 _ _ _ _ _ _ = _; rw [step n i hi, if_neg (by rw [hp]; decide)])
    (by intro n; show fX3_isTangle_2 _ _ _ _ _ _ = _; rw [fX3_isTangle_2, h.nG, if_neg (nI_nlt (by omega) (by omega))])]
  unfold isTg
  by_cases c : ffd (tgB T m) T.nG 0 < T.nG
  · rw [if_pos c]; simp [c]
  · rw [if_neg c]; simp [c]
theorem r_isTangle {v : Nat} {T : Txt} {μ : Mem} (h : rX v T μ) {m : Nat} (hm : m < 128) : fX11_isTangle (nI m) μ = some (isTg T m) := by
  have g7 := h.2.2.1.g7
  have v1 := h.2.1
  unfold fX11_isTangle
  have step : ∀ n i, i < T.nG → fX11_isTangle_2 (nI m) μ (fun _ => some true) (n + 1) (nI i) = if tgB T m i = true then some false else fX11_isTangle_2 (nI m) μ (fun _ => some true) n (nI (i + 1)) := by
    intro n i hi
    have lt : m ^^^ (m &&& 2 ^ i) < 2 ^ 7 := Nat.xor_lt_two_pow hm (Nat.lt_of_le_of_lt Nat.and_le_left hm)
    rw [fX11_isTangle_2, h.1, if_pos (inbN (by omega) (by omega)), nI_clamp (by omega), h.2.2.2.nG, if_pos (nI_lt hi (by omega)), nI_bit (by omega) (by omega), r_clashBits h hi, bind_s, nI_shl i (by omega), nI_dif, r_isPart _ _ (by omega), bind_s, nI_1]
    unfold tgB
    cases c : m.testBit i with
    | true =>
      rw [if_pos (bit_one.2 c)]
      by_cases d : m ^^^ (m &&& clB T i) = 2 ^ i
      · rw [if_pos (by rw [decide_eq_true ((tg_eq hi c).1 d)]), if_neg (by simp [d])]
      · rw [if_neg (by rw [decide_eq_false (fun q => d ((tg_eq hi c).2 q))]; decide), if_pos (by simp [d])]
    | false => rw [if_neg (fun q => by rw [bit_one.1 q] at c; cases c), if_neg (by simp)]
  rw [lfind (L := fun n i => fX11_isTangle_2 (nI m) μ (fun _ => some true) n i) (X := some true) T.nG (tgB T m) (fun _ => some false) (by omega)
    (by intro n i hi hp; show fX11_isTangle_2 _ _ _ _ _ = _; rw [step n i hi, if_pos hp])
    (by intro n i hi hp; show fX11_isTangle_2 _ _ _ _ _ = _; rw [step n i hi, if_neg (by rw [hp]; decide)])
    (by intro n; show fX11_isTangle_2 _ _ _ _ _ = _; rw [fX11_isTangle_2, h.1, if_pos (inbN (by omega) (by omega)), nI_clamp (by omega), h.2.2.2.nG, if_neg (nI_nlt (by omega) (by omega))])]
  unfold isTg
  by_cases c : ffd (tgB T m) T.nG 0 < T.nG
  · rw [if_pos c]; simp [c]
  · rw [if_neg c]; simp [c]
def tg (T : Txt) (all : Nat) : Nat → Nat
  | 0 => 0
  | i + 1 => if isSub i all ∧ pcN (tg T all i) < pcN i ∧ isTg T i = true then i else tg T all i
theorem tg_lt (T : Txt) (all : Nat) : ∀ i, tg T all i ≤ i
  | 0 => Nat.le_refl _
  | i + 1 => by
    have := tg_lt T all i
    rw [tg]; split <;> omega
theorem pcN_lt : ∀ m, m < 128 → pcN m < 8 := by decide +kernel
theorem sp_tangle : st_tangle Inv := by
  intro μ a1 ⟨A, hA, hc, hr⟩
  have g7 := hA.T.g7
  have ll := livB_lt hA.T A.S
  have tl := tg_lt A.T (livB A.T A.S) (livB A.T A.S + 1)
  by_cases w : a1 = 0 ∨ a1 = 1
  · obtain ⟨m, e1, e2, e3, _⟩ := r_copies hA hr
    have hx := e3.rX hA
    have lt2 : tg A.T (livB A.T A.S) (livB A.T A.S + 1) < 128 := by
      have := tg_lt A.T (livB A.T A.S) (livB A.T A.S)
      rw [tg]; split <;> omega
    refine qpm hA hc hr (if a1 = 0 then nI (pcN (tg A.T (livB A.T A.S) (livB A.T A.S + 1))) else nI (tg A.T (livB A.T A.S) (livB A.T A.S + 1))) ?_ ⟨m, ?_⟩ (frX11_tangle _ μ) (by decide) (by decide)
    · unfold fX10_tangle
      rw [c_two, bind_s, if_pos (by simpa using w), c_alive hA hc.T hc.S, bind_s]
      have big : fX3_largestTangle 199 (nI (livB A.T A.S)) μ = some (nI (tg A.T (livB A.T A.S) (livB A.T A.S + 1))) := by
        unfold fX3_largestTangle
        obtain ⟨b, e, ib⟩ := lupX1 (L := fun n v (a : Int32) => fX3_largestTangle_5 199 (nI (livB A.T A.S)) μ (fun y => some y) n a v) (K := fun y => some y) (a := (0 : Int32)) (livB A.T A.S + 1) (fun i a => a = nI (tg A.T (livB A.T A.S) i)) (by omega) (by omega) (by rw [tg, if_neg (by intro q; exact absurd q.2.1 (show ¬ pcN 0 < pcN 0 by decide))]; rfl)
          (by
            intro n i a h1 hi ha
            subst ha
            have tl2 := tg_lt A.T (livB A.T A.S) i
            have k1 := pcN_lt i (by omega)
            have k2 := pcN_lt (tg A.T (livB A.T A.S) i) (by omega)
            show ∃ b, fX3_largestTangle_5 _ _ _ _ _ _ _ = _ ∧ _
            rw [fX3_largestTangle_5, if_neg (nI_nlt (by omega) (by omega)), c_bits (by omega), bind_s, c_bits (by omega), bind_s, c_isTangle hc.T hA.T (by omega), bind_s, nI_1, tg]
            by_cases c1 : isSub i (livB A.T A.S)
            · rw [if_pos ((dif_zero (by omega)).2 c1)]
              by_cases c2 : pcN (tg A.T (livB A.T A.S) i) < pcN i
              · rw [if_pos (nI_lt c2 (by omega))]
                cases c3 : isTg A.T i with
                | true => rw [if_pos rfl, if_pos ⟨c1, c2, rfl⟩]; exact ⟨_, rfl, rfl⟩
                | false => rw [if_neg (by decide), if_neg (by intro q; exact absurd q.2.2 (by decide))]; exact ⟨_, rfl, rfl⟩
              · rw [if_neg (nI_nlt (by omega) (by omega)), if_neg (fun q => c2 q.2.1)]; exact ⟨_, rfl, rfl⟩
            · rw [if_neg (fun q => c1 ((dif_zero (by omega)).1 q)), if_neg (fun q => c1 q.1)]; exact ⟨_, rfl, rfl⟩)
          (by
            intro n a ha
            show fX3_largestTangle_5 _ _ _ _ _ _ _ = _
            rw [fX3_largestTangle_5, if_pos (nI_lt (by omega) (by omega))])
        rw [ib] at e
        exact e
      rw [big, bind_s, c_bits lt2, bind_s]
      split <;> rfl
    · unfold fX11_tangle
      rw [r_two, bind_s, if_pos (by simpa using w), e1, bind_s, r_livingBits hx e2, bind_s]
      obtain ⟨b, e, ib⟩ := lupX (L := fun n v (a : Int32) => fX11_tangle_25 a1 (nI (livB A.T A.S)) m (fun y8 => if a1 = 0 then (fX11_bits y8 m).bind fun q9 => some (q9, m) else some (y8, m)) n a v) (K := fun y8 => if a1 = 0 then (fX11_bits y8 m).bind fun q9 => some (q9, m) else some (y8, m)) (a := (0 : Int32)) (livB A.T A.S + 1) (fun i a => a = nI (tg A.T (livB A.T A.S) i)) (by omega) rfl
        (by
          intro n i a hi ha
          subst ha
          have tl2 := tg_lt A.T (livB A.T A.S) i
          have k1 := pcN_lt i (by omega)
          have k2 := pcN_lt (tg A.T (livB A.T A.S) i) (by omega)
          show ∃ b, fX11_tangle_25 _ _ _ _ _ _ _ = _ ∧ _
          rw [fX11_tangle_25, if_neg (nI_nlt (by omega) (by omega)), r_isPart _ _ (by omega), bind_s, r_bits (by omega), bind_s, r_bits (by omega), bind_s, r_isTangle hx (by omega), bind_s, nI_1, tg]
          by_cases c1 : isSub i (livB A.T A.S)
          · rw [if_pos (decide_eq_true c1)]
            by_cases c2 : pcN (tg A.T (livB A.T A.S) i) < pcN i
            · rw [if_pos (nI_lt c2 (by omega))]
              cases c3 : isTg A.T i with
              | true => rw [if_pos rfl, if_pos ⟨c1, c2, rfl⟩]; exact ⟨_, rfl, rfl⟩
              | false => rw [if_neg (by decide), if_neg (by intro q; exact absurd q.2.2 (by decide))]; exact ⟨_, rfl, rfl⟩
            · rw [if_neg (nI_nlt (by omega) (by omega)), if_neg (fun q => c2 q.2.1)]; exact ⟨_, rfl, rfl⟩
          · rw [if_neg (by rw [decide_eq_false c1]; decide), if_neg (fun q => c1 q.1)]; exact ⟨_, rfl, rfl⟩)
        (by
          intro n a ha
          show fX11_tangle_25 _ _ _ _ _ _ _ = _
          rw [fX11_tangle_25, if_pos (nI_lt (by omega) (by omega))])
      rw [ib, r_bits lt2, bind_s] at e
      refine Eq.trans e ?_
      split <;> rfl
  · refine ⟨-1, μ, ?_, ?_, A, hA, hc, hr⟩
    · unfold fX10_tangle
      rw [c_two, bind_s, if_neg (by simpa using w)]
    · unfold fX11_tangle
      rw [r_two, bind_s, if_neg (by simpa using w)]
