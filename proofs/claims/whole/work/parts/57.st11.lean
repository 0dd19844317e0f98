/-! ===== first, then, wornIn ===== -/
def wry (T : Txt) (S : St) : Nat := ffd (fun g => !S.dd g && decide (T.de ≤ S.re g)) T.nG 0
theorem wry_le (T : Txt) (S : St) : wry T S ≤ T.nG := by have := ffd_le (fun g => !S.dd g && decide (T.de ≤ S.re g)) T.nG 0; unfold wry; omega
theorem c_firstWeary {T : Txt} {S : St} {μ : Mem} (hT : okT T) (ok : okS T S) (h : cT 199 T μ) (hS : cS 13 S μ) : fX10_firstWeary μ = some (if wry T S < T.nG then nI (wry T S) else -2) := by
  have g7 := hT.g7
  have de := hT.de
  have step : ∀ n i, i < T.nG → fX10_firstWeary_2 μ (fun _ => some (-2)) (n + 1) (nI i) = if (!S.dd i && decide (T.de ≤ S.re i)) = true then some (nI i) else fX10_firstWeary_2 μ (fun _ => some (-2)) n (nI (i + 1)) := by
    intro n i hi
    have hb7 : inb (nI i) 7 := inbN (by omega) (by omega)
    have hci : (nI i).toNatClampNeg = i := nI_clamp (by omega)
    have re999 := ok.re i
    have wn : μ.1 16 i = nI (S.re i) := hS.re i (by omega)
    rw [fX10_firstWeary_2, h.nG, if_pos (nI_lt hi (by omega)), c_isDead hS (by omega), bind_s]
    cases d : S.dd i with
    | true => rw [if_pos rfl, nI_1, if_neg (by simp)]
    | false =>
      rw [if_neg (by decide)]
      simp only [if_pos hb7, hci]
      rw [wn, h.de]
      by_cases c : T.de ≤ S.re i
      · rw [if_neg (nI_nlt c (by omega)), if_pos (by simp [c])]
      · rw [if_pos (nI_lt (by omega) (by omega)), nI_1, if_neg (by simp [c])]
  unfold fX10_firstWeary
  rw [lfind (L := fun n i => fX10_firstWeary_2 μ (fun _ => some (-2)) n i) (X := some (-2)) T.nG (fun g => !S.dd g && decide (T.de ≤ S.re g)) (fun g => some (nI g)) (by omega)
    (by intro n i hi hp; show fX10_firstWeary_2 _ _ _ _ = _; rw [step n i hi, if_pos hp])
    (by intro n i hi hp; show fX10_firstWeary_2 _ _ _ _ = _; rw [step n i hi, if_neg (by rw [hp]; decide)])
    (by intro n; show fX10_firstWeary_2 _ _ _ _ = _; rw [fX10_firstWeary_2, h.nG, if_neg (nI_nlt (by omega) (by omega))])]
  unfold wry
  split <;> rfl
theorem r_first25 {v : Nat} {T : Txt} {S : St} {μ : Mem} {a x : Int32} {K : Unit → Option (Int32 × Mem)} (h : rX v T μ) (hS : rS 277 0 S μ) (ok : okS T S) : fX11_first_25 a x μ K FU 0 = if wry T S < T.nG then (if a = 0 then some (x, μ) else some (nI (wry T S), μ)) else K () := by
  have g7 := h.2.2.1.g7
  have v1 := h.2.1
  have step : ∀ n i, i < T.nG → fX11_first_25 a x μ K (n + 1) (nI i) = if (!S.dd i && decide (T.de ≤ S.re i)) = true then (if a = 0 then some (x, μ) else some (nI i, μ)) else fX11_first_25 a x μ K n (nI (i + 1)) := by
    intro n i hi
    have b14 : inb (nI (14 + i)) 31 := inbN (by omega) (by omega)
    have c14 : (nI (14 + i)).toNatClampNeg = 14 + i := nI_clamp (by omega)
    have a14 : (14 : Int32) + nI i = nI (14 + i) := by rw [L_14, nI_add]
    have dd := hS.dd i (by omega)
    rw [Nat.zero_add] at dd
    rw [fX11_first_25, h.1, if_pos (show inb (nI v) 2 from inbN (by omega) (by omega)), nI_clamp (n := v) (by omega), h.2.2.2.nG, if_pos (nI_lt hi (by omega))]
    simp only [a14, if_pos b14, c14]
    rw [dd, nI_1, r_isWeary h hS ok hi, bind_s]
    cases d : S.dd i with
    | true => rw [if_neg (by decide), if_neg (by simp)]
    | false => rw [if_pos (by decide)]; rfl
  exact lfind (L := fun n i => fX11_first_25 a x μ K n i) (X := K ()) T.nG (fun g => !S.dd g && decide (T.de ≤ S.re g)) (fun g => if a = 0 then some (x, μ) else some (nI g, μ)) (by omega)
    (by intro n i hi hp; show fX11_first_25 _ _ _ _ _ _ = _; rw [step n i hi, if_pos hp])
    (by intro n i hi hp; show fX11_first_25 _ _ _ _ _ _ = _; rw [step n i hi, if_neg (by rw [hp]; decide)])
    (by intro n; show fX11_first_25 _ _ _ _ _ _ = _; rw [fX11_first_25, h.1, if_pos (show inb (nI v) 2 from inbN (by omega) (by omega)), nI_clamp (n := v) (by omega), h.2.2.2.nG, if_neg (nI_nlt (by omega) (by omega))])
theorem sp_first : st_first Inv := by
  intro μ a1 ⟨A, hA, hc, hr⟩
  have g7 := hA.T.g7
  by_cases w : a1 = 0 ∨ a1 = 1
  · refine qmm hA hc hr (F := fX10_first a1) (G := fX11_first a1) (if ffd (fun n => decide (wry A.T (itW A.T none n A.S) < A.T.nG)) 101 0 < 101 then (if a1 = 0 then nI (ffd (fun n => decide (wry A.T (itW A.T none n A.S) < A.T.nG)) 101 0) else nI (wry A.T (itW A.T none (ffd (fun n => decide (wry A.T (itW A.T none n A.S) < A.T.nG)) 101 0) A.S))) else -2) ?_ ?_ (frX10_first _ μ) (frX11_first _) (by decide) (by decide) (by decide) (by decide)
    · obtain ⟨m, e, t, z, _⟩ := c_ahead hc
      unfold fX10_first
      rw [c_two, bind_s, if_pos (by simpa using w), e, bind_s]
      refine lfindX (L := fun n i m => fX10_first_23 a1 (fun μ4 => some (-2, μ4)) n i m) 101 (fun n => decide (wry A.T (itW A.T none n A.S) < A.T.nG)) (fun n => if a1 = 0 then nI n else nI (wry A.T (itW A.T none n A.S))) (-2) (fun i m => cT 199 A.T m ∧ cS 13 (itW A.T none i A.S) m) (by omega) ⟨t, z⟩ ?_ ?_ ?_
      · rintro n i m hi ⟨mT, mS⟩ hp
        have hp : wry A.T (itW A.T none i A.S) < A.T.nG := by simpa using hp
        refine ⟨m, ?_⟩
        rw [fX10_first_23, if_neg (gt100 hi), c_firstWeary hA.T (hA.S.it none i) mT mS, bind_s, if_pos hp, if_neg (fun q => nI_pos (n := wry A.T (itW A.T none i A.S)) (by omega) (by rw [q]; decide))]
        split <;> rfl
      · rintro n i m hi ⟨mT, mS⟩ hp
        have hp : ¬ wry A.T (itW A.T none i A.S) < A.T.nG := by simpa using hp
        obtain ⟨q, e1, e2, e3⟩ := c_passWeek (u := 13) (by omega) hA.T (hA.S.it none i) mT mS
        refine ⟨q, ?_, e2, e3⟩
        rw [fX10_first_23, if_neg (gt100 hi), c_firstWeary hA.T (hA.S.it none i) mT mS, bind_s, if_neg hp, if_pos rfl, e1, bind_s, nI_1]
      · rintro n m ⟨mT, mS⟩
        exact ⟨m, by rw [fX10_first_23, if_pos (by decide)]⟩
    · intro μ' hr'
      obtain ⟨m, e, z, _⟩ := r_sz hA hr'
      unfold fX11_first
      rw [r_two, bind_s, if_pos (by simpa using w), e, bind_s]
      refine lfindX (L := fun n i m => fX11_first_17 a1 (fun μ4 => some (-2, μ4)) n i m) 101 (fun n => decide (wry A.T (itW A.T none n A.S) < A.T.nG)) (fun n => if a1 = 0 then nI n else nI (wry A.T (itW A.T none n A.S))) (-2) (fun i m => rZ A.lv A.T (nI A.T.se) 1 (itW A.T none i A.S) m) (by omega) z ?_ ?_ ?_
      · rintro n i m hi mz hp
        have hp : wry A.T (itW A.T none i A.S) < A.T.nG := by simpa using hp
        refine ⟨m, ?_⟩
        rw [fX11_first_17, if_neg (gt100 hi), r_first25 mz.1 mz.2.1 (hA.S.it none i), if_pos hp]
        split <;> rfl
      · rintro n i m hi mz hp
        have hp : ¬ wry A.T (itW A.T none i A.S) < A.T.nG := by simpa using hp
        obtain ⟨q, e1, e2⟩ := r_weekGoes (d := nI A.T.se) none (hA.S.it none i) mz
        refine ⟨q, ?_, e2⟩
        rw [fX11_first_17, if_neg (gt100 hi), r_first25 mz.1 mz.2.1 (hA.S.it none i), if_neg hp, e1, bind_s, nI_1]
      · rintro n m mz
        exact ⟨m, by rw [fX11_first_17, if_pos (by decide)]⟩
  · refine ⟨-1, μ, μ, ?_, ?_, A, hA, hc, hr⟩
    · unfold fX10_first
      rw [c_two, bind_s, if_neg (by simpa using w)]
    · unfold fX11_first
      rw [r_two, bind_s, if_neg (by simpa using w)]
theorem sp_wornIn : st_wornIn Inv := by
  intro μ a1 a2 ⟨A, hA, hc, hr⟩
  have s4 := hA.T.s4
  have no1 : (a1 < 0 ∨ nI A.T.nS ≤ a1) → ∃ (r : Int32) (μ1 μ2 : Mem), fX10_wornIn a1 a2 μ = some (r, μ1) ∧ fX11_wornIn a1 a2 μ1 = some (r, μ2) ∧ Inv μ2 := by
    intro h
    refine ⟨-1, μ, μ, ?_, ?_, A, hA, hc, hr⟩
    · unfold fX10_wornIn; rw [c_isSunday_no hc h s4, bind_s, if_neg (by decide)]
    · unfold fX11_wornIn; rw [r_isSunday_no (hr.rX hA) h, bind_s, if_neg (by decide)]
  rcases pk_ix a1 (n := A.T.nS) (by omega) with h | h | ⟨s, hs, rfl⟩
  · exact no1 (Or.inl h)
  · exact no1 (Or.inr h)
  have hb4 : inb (nI s) 4 := inbN (by omega) (by omega)
  have hcs : (nI s).toNatClampNeg = s := nI_clamp (by omega)
  have b21 : inb (nI (21 + s)) 31 := inbN (by omega) (by omega)
  have c21 : (nI (21 + s)).toNatClampNeg = 21 + s := nI_clamp (by omega)
  have a21 : (21 : Int32) + nI s = nI (21 + s) := by rw [L_21, nI_add]
  by_cases w : ¬ a2 < 0 ∧ ¬ 40 < a2
  · obtain ⟨N, hN, rfl⟩ := wk_of w
    refine qmm hA hc hr (F := fX10_wornIn (nI s) (nI N)) (G := fX11_wornIn (nI s) (nI N)) (nI ((itW A.T (some (nI A.T.se)) N A.S).wn s)) ?_ ?_ (frX10_wornIn _ _ μ) (frX11_wornIn _ _) (by decide) (by decide) (by decide) (by decide)
    · obtain ⟨m, e, t, z, _⟩ := c_ahead hc
      obtain ⟨q, e2, t2, z2⟩ := c_passDeadly (u := 13) (by omega) hA.T hA.S t z (nI A.T.se) hN
      refine ⟨q, ?_⟩
      unfold fX10_wornIn
      rw [c_isSunday_yes hc hs s4, bind_s, if_pos rfl, c_isWeeks, bind_s, wk_dec hN, if_pos rfl, e, bind_s, show m.1 199 9 = nI A.T.se from t.se, e2, bind_s]
      simp only [if_pos hb4, hcs]
      rw [show q.1 15 s = _ from z2.wn s (by omega)]
    · intro μ' hr'
      obtain ⟨m, e, z, _⟩ := r_cz hA hr'
      obtain ⟨q, e1, e2⟩ := r_goes (d := 0) (some (nI A.T.se)) hA.S z hN
      have wn := e2.2.1.wn s (by omega)
      rw [Nat.zero_add] at wn
      refine ⟨q, ?_⟩
      unfold fX11_wornIn
      rw [r_isSunday_yes (hr'.rX hA) hs, bind_s, if_pos rfl, r_isLong, bind_s, wk_dec hN, if_pos rfl, e, bind_s, e1, bind_s]
      simp only [a21, if_pos b21, c21]
      rw [wn]
  · refine ⟨-1, μ, μ, ?_, ?_, A, hA, hc, hr⟩
    · unfold fX10_wornIn
      rw [c_isSunday_yes hc hs s4, bind_s, if_pos rfl, c_isWeeks, bind_s, if_neg (by simpa using w)]
    · unfold fX11_wornIn
      rw [r_isSunday_yes (hr.rX hA) hs, bind_s, if_pos rfl, r_isLong, bind_s, if_neg (by simpa using w)]
theorem sp_then : st_then Inv := by
  intro μ a1 a2 a3 ⟨A, hA, hc, hr⟩
  have g7 := hA.T.g7
  have no1 : (a1 < 0 ∨ nI A.T.nG ≤ a1) → ∃ (r : Int32) (μ1 μ2 : Mem), fX10_then a1 a2 a3 μ = some (r, μ1) ∧ fX11_then a1 a2 a3 μ1 = some (r, μ2) ∧ Inv μ2 := by
    intro h
    refine ⟨-1, μ, μ, ?_, ?_, A, hA, hc, hr⟩
    · unfold fX10_then; rw [c_isGuest_no hc h g7, bind_s, if_neg (by decide)]
    · unfold fX11_then; rw [r_isGuest_no (hr.rX hA) h, bind_s, if_neg (by decide)]
  rcases pk_ix a1 (n := A.T.nG) (by omega) with h | h | ⟨g, hg, rfl⟩
  · exact no1 (Or.inl h)
  · exact no1 (Or.inr h)
  have hb7 : inb (nI g) 7 := inbN (by omega) (by omega)
  have hcg : (nI g).toNatClampNeg = g := nI_clamp (by omega)
  by_cases w : ¬ a2 < 0 ∧ ¬ 40 < a2
  · obtain ⟨N, hN, rfl⟩ := wk_of w
    by_cases w3 : ¬ a3 < 0 ∧ ¬ 2 < a3
    · obtain ⟨j, hj0, hj, rfl⟩ := in_of (a := 0) (b := 2) (by omega) (by omega) rfl rfl w3
      have aj : (7 : Int32) * nI j + nI g = nI (7 * j + g) := by rw [L_7, pk_mul, nI_add]
      have bj : inb (nI (7 * j + g)) 31 := inbN (by omega) (by omega)
      have cj : (nI (7 * j + g)).toNatClampNeg = 7 * j + g := nI_clamp (by omega)
      refine qmm hA hc hr (F := fX10_then (nI g) (nI N) (nI j)) (G := fX11_then (nI g) (nI N) (nI j)) (if j = 0 then whI ((itW A.T (some (nI A.T.se)) N A.S).wh g) else if j = 1 then nI ((itW A.T (some (nI A.T.se)) N A.S).re g) else b2i ((itW A.T (some (nI A.T.se)) N A.S).dd g)) ?_ ?_ (frX10_then _ _ _ μ) (frX11_then _ _ _) (by decide) (by decide) (by decide) (by decide)
      · obtain ⟨m, e, t, z, _⟩ := c_ahead hc
        obtain ⟨q, e2, t2, z2⟩ := c_passDeadly (u := 13) (by omega) hA.T hA.S t z (nI A.T.se) hN
        refine ⟨q, ?_⟩
        unfold fX10_then
        rw [c_isGuest_yes hc hg g7, bind_s, if_pos rfl, c_isWeeks, bind_s, wk_dec hN, if_pos rfl, if_neg w3.1, if_neg w3.2, e, bind_s, show m.1 199 9 = nI A.T.se from t.se, e2, bind_s]
        simp only [if_pos hb7, hcg]
        rcases (show j = 0 ∨ j = 1 ∨ j = 2 by omega) with q | q | q <;> subst q
        · rw [if_pos (by decide), if_pos rfl, c_whereIs z2 (by omega) ((hA.S.it _ N).w9 hA.T g), bind_s]
        · rw [if_neg (show ¬ nI 1 = 0 by decide), if_pos (show nI 1 = 1 by decide), if_neg (show ¬ 1 = 0 by decide), if_pos rfl, show q.1 16 g = _ from z2.re g (by omega)]
        · rw [if_neg (show ¬ nI 2 = 0 by decide), if_neg (show ¬ nI 2 = 1 by decide), if_neg (show ¬ 2 = 0 by decide), if_neg (show ¬ 2 = 1 by decide), c_isDead z2 (by omega), bind_s]
          cases (itW A.T (some (nI A.T.se)) N A.S).dd g <;> rfl
      · intro μ' hr'
        obtain ⟨m, e, z, _⟩ := r_cz hA hr'
        obtain ⟨q, e1, e2⟩ := r_goes (d := 0) (some (nI A.T.se)) hA.S z hN
        refine ⟨q, ?_⟩
        unfold fX11_then
        rw [r_isGuest_yes (hr'.rX hA) hg, bind_s, if_pos rfl, r_isLong, bind_s, wk_dec hN, if_pos rfl, in_eq, bind_s, if_pos (by simpa using w3), e, bind_s, e1, bind_s]
        simp only [aj, if_pos bj, cj]
        rcases (show j = 0 ∨ j = 1 ∨ j = 2 by omega) with q | q | q <;> subst q
        · have h0 := e2.2.1.wh g (by omega)
          rw [if_pos rfl, ← h0]
        · have h0 := e2.2.1.re g (by omega)
          rw [Nat.zero_add] at h0
          rw [if_neg (by decide), if_pos rfl, ← h0]
        · have h0 := e2.2.1.dd g (by omega)
          rw [Nat.zero_add] at h0
          rw [if_neg (by decide), if_neg (by decide), ← h0]
    · refine ⟨-1, μ, μ, ?_, ?_, A, hA, hc, hr⟩
      · unfold fX10_then
        rw [c_isGuest_yes hc hg g7, bind_s, if_pos rfl, c_isWeeks, bind_s, wk_dec hN, if_pos rfl]
        by_cases w1 : a3 < 0
        · rw [if_pos w1]
        · by_cases w2 : 2 < a3
          · rw [if_neg w1, if_pos w2]
          · exact absurd ⟨w1, w2⟩ w3
      · unfold fX11_then
        rw [r_isGuest_yes (hr.rX hA) hg, bind_s, if_pos rfl, r_isLong, bind_s, wk_dec hN, if_pos rfl, in_eq, bind_s, if_neg (by simpa using w3)]
  · refine ⟨-1, μ, μ, ?_, ?_, A, hA, hc, hr⟩
    · unfold fX10_then
      rw [c_isGuest_yes hc hg g7, bind_s, if_pos rfl, c_isWeeks, bind_s, if_neg (by simpa using w)]
    · unfold fX11_then
      rw [r_isGuest_yes (hr.rX hA) hg, bind_s, if_pos rfl, r_isLong, bind_s, if_neg (by simpa using w)]
