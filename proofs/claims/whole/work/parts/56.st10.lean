/-! ===== what would be: used, weary, price, earned, then, wornIn ===== -/
theorem lfindXg {L : Nat → Int32 → Mem → Option (Int32 × Mem)} (N : Nat) (p : Nat → Bool) (ret : Nat → Int32) (X : Int32) (I : Nat → Mem → Prop)
    (ht : ∀ n i a, i < N → I i a → p i = true → ∃ m, L (n + 1) (nI i) a = some (ret i, m))
    (hf : ∀ n i a, i < N → I i a → p i = false → ∃ b, L (n + 1) (nI i) a = L n (nI (i + 1)) b ∧ I (i + 1) b)
    (he : ∀ n a, I N a → ∃ m, L (n + 1) (nI N) a = some (X, m)) : ∀ (k i n : Nat) (a : Mem), i + k = N → I i a → ∃ m, L (k + 1 + n) (nI i) a = some (if ffd p k i < N then ret (ffd p k i) else X, m)
  | 0, i, n, a, e, h => by
    have : i = N := by omega
    subst this
    rw [ffd, if_neg (by omega), show 0 + 1 + n = n + 1 by omega]
    exact he n a h
  | k + 1, i, n, a, e, h => by
    rw [show k + 1 + 1 + n = (k + 1 + n) + 1 by omega, ffd]
    cases hp : p i with
    | true => rw [if_pos rfl, if_pos (by omega)]; exact ht _ i a (by omega) h hp
    | false =>
      rw [if_neg (show ¬ false = true by decide)]
      obtain ⟨b, e1, h1⟩ := hf (k + 1 + n) i a (by omega) h hp
      obtain ⟨m, e2⟩ := lfindXg N p ret X I ht hf he k (i + 1) n b (by omega) h1
      exact ⟨m, e1.trans e2⟩
theorem lfindX {L : Nat → Int32 → Mem → Option (Int32 × Mem)} {a : Mem} (N : Nat) (p : Nat → Bool) (ret : Nat → Int32) (X : Int32) (I : Nat → Mem → Prop) (hN : N < 4096) (h0 : I 0 a)
    (ht : ∀ n i a, i < N → I i a → p i = true → ∃ m, L (n + 1) (nI i) a = some (ret i, m))
    (hf : ∀ n i a, i < N → I i a → p i = false → ∃ b, L (n + 1) (nI i) a = L n (nI (i + 1)) b ∧ I (i + 1) b)
    (he : ∀ n a, I N a → ∃ m, L (n + 1) (nI N) a = some (X, m)) : ∃ m, L FU 0 a = some (if ffd p N 0 < N then ret (ffd p N 0) else X, m) := by
  obtain ⟨m, e⟩ := lfindXg N p ret X I ht hf he N 0 (4096 - (N + 1)) a (by omega) h0
  rw [show N + 1 + (4096 - (N + 1)) = FU by unfold FU; omega] at e
  exact ⟨m, e⟩
theorem gt100 {i : Nat} (h : i < 101) : ¬ (100 : Int32) < nI i := fun q => by have := (nI_ltI (a := 100) (by omega) (by omega)).1 q; omega
theorem in_of {x : Int32} {a b : Nat} (ha : a < 2 ^ 31) (hb : b < 2 ^ 31) {xa xb : Int32} (ea : xa = nI a) (eb : xb = nI b) (h : ¬ x < xa ∧ ¬ xb < x) : ∃ n, a ≤ n ∧ n ≤ b ∧ x = nI n := by
  subst ea eb
  have h0 : ¬ x < 0 := by
    intro q
    apply h.1
    rw [Int32.lt_iff_toInt_lt] at q ⊢
    have : (0 : Int32).toInt = 0 := by decide
    rw [nI_toInt ha]; omega
  obtain ⟨n, hn, rfl⟩ := nI_of h0
  have h1 : ¬ n < a := fun q => h.1 ((nI_ltI hn ha).2 q)
  have h2 : ¬ b < n := fun q => h.2 ((nI_ltI hb hn).2 q)
  exact ⟨n, by omega, by omega, rfl⟩
theorem sp_used : st_used Inv := by
  intro μ a1 a2 ⟨A, hA, hc, hr⟩
  have s4 := hA.T.s4
  have no1 : (a1 < 0 ∨ nI A.T.nS ≤ a1) → ∃ (r : Int32) (μ1 μ2 : Mem), fX10_used a1 a2 μ = some (r, μ1) ∧ fX11_used a1 a2 μ1 = some (r, μ2) ∧ Inv μ2 := by
    intro h
    refine ⟨-1, μ, μ, ?_, ?_, A, hA, hc, hr⟩
    · unfold fX10_used; rw [c_isSunday_no hc h s4, bind_s, if_neg (by decide)]
    · unfold fX11_used; rw [r_isSunday_no (hr.rX hA) h, bind_s, if_neg (by decide)]
  rcases pk_ix a1 (n := A.T.nS) (by omega) with h | h | ⟨s, hs, rfl⟩
  · exact no1 (Or.inl h)
  · exact no1 (Or.inr h)
  have hb4 : inb (nI s) 4 := inbN (by omega) (by omega)
  have hcs : (nI s).toNatClampNeg = s := nI_clamp (by omega)
  have b21 : inb (nI (21 + s)) 31 := inbN (by omega) (by omega)
  have c21 : (nI (21 + s)).toNatClampNeg = 21 + s := nI_clamp (by omega)
  have a21 : (21 : Int32) + nI s = nI (21 + s) := by rw [L_21, nI_add]
  by_cases w : ¬ a2 < 1 ∧ ¬ 99 < a2
  · obtain ⟨v, hv1, hv2, rfl⟩ := in_of (a := 1) (b := 99) (by omega) (by omega) rfl rfl w
    refine qmm hA hc hr (F := fX10_used (nI s) (nI v)) (G := fX11_used (nI s) (nI v)) (if ffd (fun n => decide (v ≤ (itW A.T none n A.S).wn s)) 101 0 < 101 then nI (ffd (fun n => decide (v ≤ (itW A.T none n A.S).wn s)) 101 0) else -2) ?_ ?_ (frX10_used _ _ μ) (frX11_used _ _) (by decide) (by decide) (by decide) (by decide)
    · obtain ⟨m, e, t, z, _⟩ := c_ahead hc
      unfold fX10_used
      rw [c_isSunday_yes hc hs s4, bind_s, if_pos rfl, if_neg w.1, if_neg w.2, e, bind_s]
      refine lfindX (L := fun n i m => fX10_used_34 (nI s) (nI v) (fun μ4 => some (-2, μ4)) n i m) 101 (fun n => decide (v ≤ (itW A.T none n A.S).wn s)) nI (-2) (fun i m => cT 199 A.T m ∧ cS 13 (itW A.T none i A.S) m) (by omega) ⟨t, z⟩ ?_ ?_ ?_
      · rintro n i m hi ⟨mT, mS⟩ hp
        have wn : m.1 15 s = nI ((itW A.T none i A.S).wn s) := mS.wn s (by omega)
        have w99 := (hA.S.it none i).wn s
        have hp : v ≤ (itW A.T none i A.S).wn s := by simpa using hp
        refine ⟨m, ?_⟩
        rw [fX10_used_34, if_neg (gt100 hi)]
        simp only [if_pos hb4, hcs]
        rw [wn, if_neg (nI_nlt hp (by omega))]
      · rintro n i m hi ⟨mT, mS⟩ hp
        have wn : m.1 15 s = nI ((itW A.T none i A.S).wn s) := mS.wn s (by omega)
        have hp : (itW A.T none i A.S).wn s < v := by simpa using hp
        obtain ⟨q, e1, e2, e3⟩ := c_passWeek (u := 13) (by omega) hA.T (hA.S.it none i) mT mS
        refine ⟨q, ?_, e2, e3⟩
        rw [fX10_used_34, if_neg (gt100 hi)]
        simp only [if_pos hb4, hcs]
        rw [wn, if_pos (nI_lt hp (by omega)), e1, bind_s, nI_1]
      · rintro n m ⟨mT, mS⟩
        exact ⟨m, by rw [fX10_used_34, if_pos (by decide)]⟩
    · intro μ' hr'
      obtain ⟨m, e, z, _⟩ := r_sz hA hr'
      unfold fX11_used
      rw [r_isSunday_yes (hr'.rX hA) hs, bind_s, if_pos rfl, in_eq, bind_s, if_pos (by simpa using w), e, bind_s]
      refine lfindX (L := fun n i m => fX11_used_26 (nI s) (nI v) (fun μ4 => some (-2, μ4)) n i m) 101 (fun n => decide (v ≤ (itW A.T none n A.S).wn s)) nI (-2) (fun i m => rZ A.lv A.T (nI A.T.se) 1 (itW A.T none i A.S) m) (by omega) z ?_ ?_ ?_
      · rintro n i m hi mz hp
        have wn := mz.2.1.wn s (by omega)
        rw [Nat.zero_add] at wn
        have w99 := (hA.S.it none i).wn s
        have hp : v ≤ (itW A.T none i A.S).wn s := by simpa using hp
        refine ⟨m, ?_⟩
        rw [fX11_used_26, if_neg (gt100 hi)]
        simp only [a21, if_pos b21, c21]
        rw [wn, if_neg (nI_nlt hp (by omega))]
      · rintro n i m hi mz hp
        have wn := mz.2.1.wn s (by omega)
        rw [Nat.zero_add] at wn
        have hp : (itW A.T none i A.S).wn s < v := by simpa using hp
        obtain ⟨q, e1, e2⟩ := r_weekGoes (d := nI A.T.se) none (hA.S.it none i) mz
        refine ⟨q, ?_, e2⟩
        rw [fX11_used_26, if_neg (gt100 hi)]
        simp only [a21, if_pos b21, c21]
        rw [wn, if_pos (nI_lt hp (by omega)), e1, bind_s, nI_1]
      · rintro n m mz
        exact ⟨m, by rw [fX11_used_26, if_pos (by decide)]⟩
  · refine ⟨-1, μ, μ, ?_, ?_, A, hA, hc, hr⟩
    · unfold fX10_used
      rw [c_isSunday_yes hc hs s4, bind_s, if_pos rfl]
      by_cases w1 : a2 < 1
      · rw [if_pos w1]
      · by_cases w2 : 99 < a2
        · rw [if_neg w1, if_pos w2]
        · exact absurd ⟨w1, w2⟩ w
    · unfold fX11_used
      rw [r_isSunday_yes (hr.rX hA) hs, bind_s, if_pos rfl, in_eq, bind_s, if_neg (by simpa using w)]
theorem r_isWeary {v : Nat} {T : Txt} {S : St} {μ : Mem} (h : rX v T μ) (hS : rS 277 0 S μ) (ok : okS T S) {g : Nat} (hg : g < T.nG) : fX11_isWeary (nI g) μ = some (decide (T.de ≤ S.re g)) := by
  have g7 := h.2.2.1.g7
  have v1 := h.2.1
  have de := h.2.2.1.de
  have re999 := ok.re g
  have b7 : inb (nI (7 + g)) 31 := inbN (by omega) (by omega)
  have c7 : (nI (7 + g)).toNatClampNeg = 7 + g := nI_clamp (by omega)
  have a7 : (7 : Int32) + nI g = nI (7 + g) := by rw [L_7, nI_add]
  have e := hS.re g (by omega)
  rw [Nat.zero_add] at e
  unfold fX11_isWeary
  rw [h.1, if_pos (show inb (nI v) 2 from inbN (by omega) (by omega)), nI_clamp (n := v) (by omega), h.2.2.2.de]
  simp only [a7, if_pos b7, c7]
  rw [e]
  by_cases c : T.de ≤ S.re g
  · rw [if_neg (nI_nlt c (by omega))]; simp [c]
  · rw [if_pos (nI_lt (by omega) (by omega))]; simp [c]
theorem sp_weary : st_weary Inv := by
  intro μ a1 ⟨A, hA, hc, hr⟩
  have g7 := hA.T.g7
  have de := hA.T.de
  have no1 : (a1 < 0 ∨ nI A.T.nG ≤ a1) → ∃ (r : Int32) (μ1 μ2 : Mem), fX10_weary a1 μ = some (r, μ1) ∧ fX11_weary a1 μ1 = some (r, μ2) ∧ Inv μ2 := by
    intro h
    refine ⟨-1, μ, μ, ?_, ?_, A, hA, hc, hr⟩
    · unfold fX10_weary; rw [c_isGuest_no hc h g7, bind_s, if_neg (by decide)]
    · unfold fX11_weary; rw [r_isGuest_no (hr.rX hA) h, bind_s, if_neg (by decide)]
  rcases pk_ix a1 (n := A.T.nG) (by omega) with h | h | ⟨g, hg, rfl⟩
  · exact no1 (Or.inl h)
  · exact no1 (Or.inr h)
  have hb7 : inb (nI g) 7 := inbN (by omega) (by omega)
  have hcg : (nI g).toNatClampNeg = g := nI_clamp (by omega)
  refine qmm hA hc hr (F := fX10_weary (nI g)) (G := fX11_weary (nI g)) (if ffd (fun n => decide (A.T.de ≤ (itW A.T none n A.S).re g)) 101 0 < 101 then nI (ffd (fun n => decide (A.T.de ≤ (itW A.T none n A.S).re g)) 101 0) else -2) ?_ ?_ (frX10_weary _ μ) (frX11_weary _) (by decide) (by decide) (by decide) (by decide)
  · obtain ⟨m, e, t, z, _⟩ := c_ahead hc
    unfold fX10_weary
    rw [c_isGuest_yes hc hg g7, bind_s, if_pos rfl, e, bind_s]
    refine lfindX (L := fun n i m => fX10_weary_23 (nI g) (fun μ4 => some (-2, μ4)) n i m) 101 (fun n => decide (A.T.de ≤ (itW A.T none n A.S).re g)) nI (-2) (fun i m => cT 199 A.T m ∧ cS 13 (itW A.T none i A.S) m) (by omega) ⟨t, z⟩ ?_ ?_ ?_
    · rintro n i m hi ⟨mT, mS⟩ hp
      have wn : m.1 16 g = nI ((itW A.T none i A.S).re g) := mS.re g (by omega)
      have w99 := (hA.S.it none i).re g
      have hp : A.T.de ≤ (itW A.T none i A.S).re g := by simpa using hp
      refine ⟨m, ?_⟩
      rw [fX10_weary_23, if_neg (gt100 hi)]
      simp only [if_pos hb7, hcg]
      rw [wn, mT.de, if_neg (nI_nlt hp (by omega))]
    · rintro n i m hi ⟨mT, mS⟩ hp
      have wn : m.1 16 g = nI ((itW A.T none i A.S).re g) := mS.re g (by omega)
      have hp : (itW A.T none i A.S).re g < A.T.de := by simpa using hp
      obtain ⟨q, e1, e2, e3⟩ := c_passWeek (u := 13) (by omega) hA.T (hA.S.it none i) mT mS
      refine ⟨q, ?_, e2, e3⟩
      rw [fX10_weary_23, if_neg (gt100 hi)]
      simp only [if_pos hb7, hcg]
      rw [wn, mT.de, if_pos (nI_lt hp (by omega)), e1, bind_s, nI_1]
    · rintro n m ⟨mT, mS⟩
      exact ⟨m, by rw [fX10_weary_23, if_pos (by decide)]⟩
  · intro μ' hr'
    obtain ⟨m, e, z, _⟩ := r_sz hA hr'
    unfold fX11_weary
    rw [r_isGuest_yes (hr'.rX hA) hg, bind_s, if_pos rfl, e, bind_s]
    refine lfindX (L := fun n i m => fX11_weary_16 (nI g) (fun μ4 => some (-2, μ4)) n i m) 101 (fun n => decide (A.T.de ≤ (itW A.T none n A.S).re g)) nI (-2) (fun i m => rZ A.lv A.T (nI A.T.se) 1 (itW A.T none i A.S) m) (by omega) z ?_ ?_ ?_
    · rintro n i m hi mz hp
      refine ⟨m, ?_⟩
      rw [fX11_weary_16, if_neg (gt100 hi), r_isWeary mz.1 mz.2.1 (hA.S.it none i) hg, bind_s, if_pos hp]
    · rintro n i m hi mz hp
      obtain ⟨q, e1, e2⟩ := r_weekGoes (d := nI A.T.se) none (hA.S.it none i) mz
      refine ⟨q, ?_, e2⟩
      rw [fX11_weary_16, if_neg (gt100 hi), r_isWeary mz.1 mz.2.1 (hA.S.it none i) hg, bind_s, if_neg (by rw [hp]; decide), e1, bind_s, nI_1]
    · rintro n m mz
      exact ⟨m, by rw [fX11_weary_16, if_pos (by decide)]⟩
theorem c_passes {u : Nat} {T : Txt} {S : St} {R : Type} {L : Nat → Int32 → Mem → Option R} {K : Mem → Option R} {μ : Mem} (hu : u + 3 < 181) (hT : okT T) (ok : okS T S) (h : cT 199 T μ) (hS : cS u S μ) {N : Nat} (hN : N ≤ 40)
    (hs : ∀ n i a b, i < N → fX1_passWeek 199 u a = some b → L (n + 1) (nI i) a = L n (nI (i + 1)) b) (he : ∀ n a, L (n + 1) (nI N) a = K a) : ∃ m, L FU 0 μ = K m ∧ cT 199 T m ∧ cS u (itW T none N S) m ∧ Fr (WX1_passWeek 199 u) μ m := by
  refine lupX (L := L) (K := K) N (fun i m => cT 199 T m ∧ cS u (itW T none i S) m ∧ Fr (WX1_passWeek 199 u) μ m) (by omega) ⟨h, hS, Fr.rfl⟩ ?_ ?_
  · rintro n i m hi ⟨mT, mS, mF⟩
    obtain ⟨q, e1, e2, e3⟩ := c_passWeek hu hT (ok.it none i) mT mS
    have f : Fr (WX1_passWeek 199 u) m q := frX1_passWeek _ _ _ _ e1
    exact ⟨q, hs n i m q hi e1, e2, e3, mF.trans f⟩
  · rintro n m _
    exact he n m
theorem sp_earned : st_earned Inv := by
  intro μ a1 ⟨A, hA, hc, hr⟩
  by_cases w : ¬ a1 < 0 ∧ ¬ 40 < a1
  · obtain ⟨N, hN, rfl⟩ := wk_of w
    refine qmm hA hc hr (F := fX10_earned (nI N)) (G := fX11_earned (nI N)) ((itW A.T none N A.S).mo - A.S.mo) ?_ ?_ (frX10_earned _ μ) (frX11_earned _) (by decide) (by decide) (by decide) (by decide)
    · obtain ⟨m, e, t, z, c⟩ := c_ahead hc
      unfold fX10_earned
      rw [c_isWeeks, bind_s, wk_dec hN, if_pos rfl, e, bind_s]
      obtain ⟨q, e2, t2, z2, f2⟩ := c_passes (L := fun n i m => fX10_earned_23 (nI N) (fun μ4 => some (((μ4.1 13 1) - (μ4.1 9 1)), μ4)) n i m) (K := fun μ4 => some (((μ4.1 13 1) - (μ4.1 9 1)), μ4)) (u := 13) (by omega) hA.T hA.S t z hN
        (by intro n i a b hi e; show fX10_earned_23 _ _ _ _ _ = _; rw [fX10_earned_23, if_pos (nI_lt hi (by omega)), e, bind_s, nI_1])
        (by intro n a; show fX10_earned_23 _ _ _ _ _ = _; rw [fX10_earned_23, if_neg (nI_nlt (by omega) (by omega))])
      have c2 := CInv.ag c (agC f2 (by decide))
      refine ⟨q, ?_⟩
      rw [show fX10_earned_23 (nI N) (fun μ4 => some (((μ4.1 13 1) - (μ4.1 9 1)), μ4)) FU 0 m = _ from e2, z2.mo, c2.S.mo]
    · intro μ' hr'
      obtain ⟨m, e, z, r⟩ := r_sz hA hr'
      obtain ⟨q, e1, e2⟩ := r_goes (d := nI A.T.se) none hA.S z hN
      have f6 : Fr WX11_goes m q := frX11_goes _ _ _ e1
      have r6 := RInv.ag r (agR f6 (by decide))
      have h1 := e2.2.1.mo
      have h2 := r6.S.mo
      rw [Nat.zero_add] at h1 h2
      refine ⟨q, ?_⟩
      unfold fX11_earned
      rw [r_isLong, bind_s, wk_dec hN, if_pos rfl, e, bind_s, e1, bind_s, h1, h2]
  · refine ⟨-1, μ, μ, ?_, ?_, A, hA, hc, hr⟩
    · unfold fX10_earned
      rw [c_isWeeks, bind_s, if_neg (by simpa using w)]
    · unfold fX11_earned
      rw [r_isLong, bind_s, if_neg (by simpa using w)]
theorem r_isForSale {A : Abs} {μ : Mem} (hA : okA A) (hr : RInv A μ) {s : Nat} (hs : s < A.T.nS) : fX11_isForSale (nI s) μ = some (!A.S.sd s) := by
  have s4 := hA.T.s4
  have b25 : inb (nI (25 + s)) 31 := inbN (by omega) (by omega)
  have c25 : (nI (25 + s)).toNatClampNeg = 25 + s := nI_clamp (by omega)
  have a25 : (25 : Int32) + nI s = nI (25 + s) := by rw [L_25, nI_add]
  have sd := hr.S.sd s (by omega)
  rw [Nat.zero_add] at sd
  unfold fX11_isForSale
  rw [r_isSunday_yes (hr.rX hA) hs, bind_s, if_pos rfl]
  simp only [a25, if_pos b25, c25]
  rw [sd]
  cases A.S.sd s <;> rfl
theorem r_isForSale_no {A : Abs} {μ : Mem} (hA : okA A) (hr : RInv A μ) {x : Int32} (h : x < 0 ∨ nI A.T.nS ≤ x) : fX11_isForSale x μ = some false := by
  unfold fX11_isForSale
  rw [r_isSunday_no (hr.rX hA) h, bind_s, if_neg (by decide)]
theorem sp_price : st_price Inv := by
  intro μ a1 a2 ⟨A, hA, hc, hr⟩
  have s4 := hA.T.s4
  have no1 : (a1 < 0 ∨ nI A.T.nS ≤ a1) → ∃ (r : Int32) (μ1 μ2 : Mem), fX10_price a1 a2 μ = some (r, μ1) ∧ fX11_price a1 a2 μ1 = some (r, μ2) ∧ Inv μ2 := by
    intro h
    refine ⟨-1, μ, μ, ?_, ?_, A, hA, hc, hr⟩
    · unfold fX10_price; rw [c_isSunday_no hc h s4, bind_s, if_neg (by decide)]
    · unfold fX11_price; rw [r_isForSale_no hA hr h, bind_s, if_neg (by decide)]
  rcases pk_ix a1 (n := A.T.nS) (by omega) with h | h | ⟨s, hs, rfl⟩
  · exact no1 (Or.inl h)
  · exact no1 (Or.inr h)
  cases sd : A.S.sd s with
  | true =>
    refine ⟨-1, μ, μ, ?_, ?_, A, hA, hc, hr⟩
    · unfold fX10_price; rw [c_isSunday_yes hc hs s4, bind_s, if_pos rfl, c_isSold hc.S (by omega), bind_s, if_pos sd]
    · unfold fX11_price; rw [r_isForSale hA hr hs, bind_s, sd, if_neg (by decide)]
  | false =>
    by_cases w : ¬ a2 < 0 ∧ ¬ 40 < a2
    · obtain ⟨N, hN, rfl⟩ := wk_of w
      refine qmm hA hc hr (F := fX10_price (nI s) (nI N)) (G := fX11_price (nI s) (nI N)) (sellV A.T (itW A.T none N A.S) s) ?_ ?_ (frX10_price _ _ μ) (frX11_price _ _) (by decide) (by decide) (by decide) (by decide)
      · obtain ⟨m, e, t, z, c⟩ := c_ahead hc
        unfold fX10_price
        rw [c_isSunday_yes hc hs s4, bind_s, if_pos rfl, c_isSold hc.S (by omega), bind_s, if_neg (by rw [sd]; decide), c_isWeeks, bind_s, wk_dec hN, if_pos rfl, e, bind_s]
        obtain ⟨q, e2, t2, z2, f2⟩ := c_passes (L := fun n i m => fX10_price_42 (nI s) (nI N) (fun μ6 => (fX1_ofSunday 3 199 13 (nI s) μ6).bind fun q7 => some (q7.1, q7.2)) n i m) (K := fun μ6 => (fX1_ofSunday 3 199 13 (nI s) μ6).bind fun q7 => some (q7.1, q7.2)) (u := 13) (by omega) hA.T hA.S t z hN
          (by intro n i a b hi e; show fX10_price_42 _ _ _ _ _ _ = _; rw [fX10_price_42, if_pos (nI_lt hi (by omega)), e, bind_s, nI_1])
          (by intro n a; show fX10_price_42 _ _ _ _ _ _ = _; rw [fX10_price_42, if_neg (nI_nlt (by omega) (by omega))])
        obtain ⟨m3, k3⟩ : ∃ m, fX1_ofSunday 3 199 13 (nI s) q = some (lawV A.T 3 (vsS A.T (itW A.T none N A.S) s), m) := c_ofSunday (k := 3) (by omega) (by omega) hA.T (hA.S.it none N) t2 z2 (by omega) hs
        refine ⟨m3, Eq.trans e2 ?_⟩
        rw [k3, bind_s]; rfl
      · intro μ' hr'
        obtain ⟨m, e, z, r⟩ := r_sz hA hr'
        obtain ⟨q, e1, e2⟩ := r_goes (d := nI A.T.se) none hA.S z hN
        obtain ⟨m3, k3⟩ := r_sellsOf e2.1 e2.2.1 (hA.S.it none N) hs
        refine ⟨m3, ?_⟩
        unfold fX11_price
        rw [r_isForSale hA hr' hs, bind_s, sd, if_pos (by decide), r_isLong, bind_s, wk_dec hN, if_pos rfl, e, bind_s, e1, bind_s, k3, bind_s]
    · refine ⟨-1, μ, μ, ?_, ?_, A, hA, hc, hr⟩
      · unfold fX10_price
        rw [c_isSunday_yes hc hs s4, bind_s, if_pos rfl, c_isSold hc.S (by omega), bind_s, if_neg (by rw [sd]; decide), c_isWeeks, bind_s, if_neg (by simpa using w)]
      · unfold fX11_price
        rw [r_isForSale hA hr hs, bind_s, sd, if_pos (by decide), r_isLong, bind_s, if_neg (by simpa using w)]
