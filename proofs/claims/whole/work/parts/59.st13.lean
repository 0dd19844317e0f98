/-! ===== payer, best, year ===== -/
def pyr (T : Txt) (S : St) : Nat → Option Nat
  | 0 => none
  | n + 1 => if S.wh n = 9 then pyr T S n else match pyr T S n with
    | none => some n
    | some b => if gLaw T S 0 b < gLaw T S 0 n then some n else some b
def py1 (o : Option Nat) : Int32 := match o with | none => -2 | some b => nI b
def py2 (T : Txt) (S : St) (o : Option Nat) : Int32 := match o with | none => -2 | some b => gLaw T S 0 b
theorem pyr_in {T : Txt} {S : St} : ∀ {n b : Nat}, pyr T S n = some b → b < n ∧ ¬ S.wh b = 9
  | 0, b, h => by cases h
  | n + 1, b, h => by
    rw [pyr] at h
    by_cases c : S.wh n = 9
    · rw [if_pos c] at h
      have := pyr_in h
      omega
    · rw [if_neg c] at h
      cases q : pyr T S n with
      | none =>
        rw [q] at h
        simp only [Option.some.injEq] at h
        subst h
        exact ⟨by omega, c⟩
      | some b2 =>
        have h2 := pyr_in q
        rw [q] at h
        simp only at h
        by_cases d : gLaw T S 0 b2 < gLaw T S 0 n
        · rw [if_pos d] at h
          simp only [Option.some.injEq] at h
          subst h
          exact ⟨by omega, c⟩
        · rw [if_neg d] at h
          simp only [Option.some.injEq] at h
          subst h
          exact ⟨by omega, h2.2⟩
theorem pyr_s9 {T : Txt} {S : St} {n : Nat} (c : S.wh n = 9) : pyr T S (n + 1) = pyr T S n := by rw [pyr, if_pos c]
theorem pyr_s0 {T : Txt} {S : St} {n : Nat} (c : ¬ S.wh n = 9) (p : pyr T S n = none) : pyr T S (n + 1) = some n := by rw [pyr, if_neg c, p]
theorem pyr_s1 {T : Txt} {S : St} {n b : Nat} (c : ¬ S.wh n = 9) (p : pyr T S n = some b) (d : gLaw T S 0 b < gLaw T S 0 n) : pyr T S (n + 1) = some n := by rw [pyr, if_neg c, p]; exact if_pos d
theorem pyr_s2 {T : Txt} {S : St} {n b : Nat} (c : ¬ S.wh n = 9) (p : pyr T S n = some b) (d : ¬ gLaw T S 0 b < gLaw T S 0 n) : pyr T S (n + 1) = some b := by rw [pyr, if_neg c, p]; exact if_neg d
theorem m2_lt {n : Nat} (h : n < 2 ^ 31) : (-2 : Int32) < nI n := by
  rw [Int32.lt_iff_toInt_lt, nI_toInt h]
  have : (-2 : Int32).toInt = -2 := by decide
  omega
theorem sp_payer : st_payer Inv := by
  intro μ a1 ⟨A, hA, hc, hr⟩
  have g7 := hA.T.g7
  have v1 := hA.lv
  by_cases w : a1 = 0 ∨ a1 = 1
  · refine qmm hA hc hr (F := fX10_payer a1) (G := fX11_payer a1) (if a1 = 0 then py1 (pyr A.T A.S A.T.nG) else py2 A.T A.S (pyr A.T A.S A.T.nG)) ?_ ?_ (frX10_payer _ μ) (frX11_payer _) (by decide) (by decide) (by decide) (by decide)
    · unfold fX10_payer
      rw [c_two, bind_s, if_pos (by simpa using w)]
      obtain ⟨b, e, i1, i2, i3⟩ := lupX (L := fun n v (a : Int32 × Int32 × Mem) => fX10_payer_19 a1 (fun y4 y5 μ6 => if a1 = 0 then some (y4, μ6) else some (y5, μ6)) n a.1 a.2.1 v a.2.2) (K := fun a => if a1 = 0 then some (a.1, a.2.2) else some (a.2.1, a.2.2)) (a := ((-2 : Int32), (-2 : Int32), μ)) A.T.nG (fun i a => a.1 = py1 (pyr A.T A.S i) ∧ a.2.1 = py2 A.T A.S (pyr A.T A.S i) ∧ CInv A a.2.2) (by omega) ⟨rfl, rfl, hc⟩
        (by
          rintro n i ⟨x, y, m⟩ hi ⟨hx, hy, hm⟩
          have hx : x = py1 (pyr A.T A.S i) := hx
          have hy : y = py2 A.T A.S (pyr A.T A.S i) := hy
          have hm : CInv A m := hm
          have w9 : A.S.wh i < 9 ∨ A.S.wh i = 9 := by have := hA.S.w9 hA.T i; have := hA.T.s4; omega
          show ∃ b : Int32 × Int32 × Mem, fX10_payer_19 _ _ (n + 1) x y (nI i) m = _ ∧ _
          rw [fX10_payer_19, hm.T.nG, if_pos (nI_lt hi (by omega)), c_whereIs hm.S (by omega) (hA.S.w9 hA.T i), bind_s, nI_1]
          by_cases c : A.S.wh i = 9
          · rw [if_pos ((whI_m2 w9).2 c), pyr_s9 c]
            exact ⟨(x, y, m), rfl, hx, hy, hm⟩
          · rw [if_neg (fun q => c ((whI_m2 w9).1 q))]
            obtain ⟨q, e⟩ : ∃ m2, fX1_ofGuestNow 0 199 9 (nI i) m = some (gLaw A.T A.S 0 i, m2) := c_ofGuestNow (k := 0) (by omega) (by omega) hA.T hA.S hm.T hm.S (by omega) hi
            have f := frX1_ofGuestNow _ _ _ _ _ _ e
            have hq : CInv A q := hm.ag (agC f (by decide))
            rw [e, bind_s]
            have gn := gLaw_N A.T A.S 0 i
            cases p : pyr A.T A.S i with
            | none =>
              rw [p] at hx hy
              have : y < gLaw A.T A.S 0 i := by rw [hy, gn.1]; exact m2_lt (by omega)
              rw [if_pos this, pyr_s0 c p]
              exact ⟨(nI i, gLaw A.T A.S 0 i, q), rfl, rfl, rfl, hq⟩
            | some b =>
              rw [p] at hx hy
              have hy : y = gLaw A.T A.S 0 b := hy
              subst hy
              by_cases d : gLaw A.T A.S 0 b < gLaw A.T A.S 0 i
              · rw [if_pos d, pyr_s1 c p d]
                exact ⟨(nI i, gLaw A.T A.S 0 i, q), rfl, rfl, rfl, hq⟩
              · rw [if_neg d, pyr_s2 c p d]
                exact ⟨(x, gLaw A.T A.S 0 b, q), rfl, (by rw [← p]; exact hx), rfl, hq⟩)
        (by
          rintro n ⟨x, y, m⟩ ⟨hx, hy, hm⟩
          have hm : CInv A m := hm
          show fX10_payer_19 _ _ (n + 1) x y (nI A.T.nG) m = _
          rw [fX10_payer_19, hm.T.nG, if_neg (nI_nlt (by omega) (by omega))])
      refine ⟨b.2.2, Eq.trans e ?_⟩
      show (if a1 = 0 then some (b.1, b.2.2) else some (b.2.1, b.2.2)) = _
      rw [i1, i2]
      split <;> rfl
    · intro μ' hr'
      obtain ⟨m0, e0, z0, _⟩ := r_cz hA hr'
      unfold fX11_payer
      rw [r_two, bind_s, if_pos (by simpa using w), e0, bind_s]
      obtain ⟨b, e, i1, i2⟩ := lupX (L := fun n v (a : Int32 × Mem) => fX11_payer_20 a1 (fun y5 μ6 => if y5 < 0 then some (y5, μ6) else if a1 = 0 then some (y5, μ6) else (fX11_paysOf y5 μ6).bind fun q7 => some (q7.1, q7.2)) n a.1 v a.2) (K := fun a => if a.1 < 0 then some (a.1, a.2) else if a1 = 0 then some (a.1, a.2) else (fX11_paysOf a.1 a.2).bind fun q7 => some (q7.1, q7.2)) (a := ((-2 : Int32), m0)) A.T.nG (fun i a => a.1 = py1 (pyr A.T A.S i) ∧ rZ A.lv A.T (nI A.T.se) 0 A.S a.2) (by omega) ⟨rfl, z0⟩
        (by
          rintro n i ⟨x, m⟩ hi ⟨hx, hm⟩
          have hx : x = py1 (pyr A.T A.S i) := hx
          have hm : rZ A.lv A.T (nI A.T.se) 0 A.S m := hm
          have w9 : A.S.wh i < 9 ∨ A.S.wh i = 9 := by have := hA.S.w9 hA.T i; have := hA.T.s4; omega
          have wh := hm.2.1.wh i (by omega)
          rw [Nat.zero_add] at wh
          have bi : inb (nI i) 31 := inbN (by omega) (by omega)
          have ci : (nI i).toNatClampNeg = i := nI_clamp (by omega)
          show ∃ b : Int32 × Mem, fX11_payer_20 _ _ (n + 1) x (nI i) m = _ ∧ _
          rw [fX11_payer_20, hm.1.1, if_pos (show inb (nI A.lv) 2 from inbN (by omega) (by omega)), nI_clamp (n := A.lv) (by omega), hm.1.2.2.2.nG, if_pos (nI_lt hi (by omega))]
          simp only [if_pos bi, ci]
          rw [wh, nI_1]
          by_cases c : A.S.wh i = 9
          · rw [if_pos ((whI_neg w9).2 c), pyr_s9 c]
            exact ⟨(x, m), rfl, hx, hm⟩
          · rw [if_neg (fun q => c ((whI_neg w9).1 q))]
            cases p : pyr A.T A.S i with
            | none =>
              rw [p] at hx
              rw [if_pos (show x < 0 by rw [hx]; decide), pyr_s0 c p]
              exact ⟨(nI i, m), rfl, rfl, hm⟩
            | some b =>
              have pb := pyr_in p
              rw [p] at hx
              have hx : x = nI b := hx
              rw [hx, if_neg (nI_pos (by omega))]
              obtain ⟨⟨q, e⟩, _⟩ := r_gOf hm.1 hm.2.1 hA.S hi
              have z := hm.fr (frX11_paysOf _ _ _ e) (by decide)
              obtain ⟨⟨q2, e2⟩, _⟩ := r_gOf z.1 z.2.1 hA.S (g := b) (by omega)
              have z2 := z.fr (frX11_paysOf _ _ _ e2) (by decide)
              rw [e, bind_s, e2, bind_s]
              by_cases d : gLaw A.T A.S 0 b < gLaw A.T A.S 0 i
              · rw [if_pos d, pyr_s1 c p d]
                exact ⟨(nI i, q2), rfl, rfl, z2⟩
              · rw [if_neg d, pyr_s2 c p d]
                exact ⟨(nI b, q2), rfl, rfl, z2⟩)
        (by
          rintro n ⟨x, m⟩ ⟨hx, hm⟩
          have hm : rZ A.lv A.T (nI A.T.se) 0 A.S m := hm
          show fX11_payer_20 _ _ (n + 1) x (nI A.T.nG) m = _
          rw [fX11_payer_20, hm.1.1, if_pos (show inb (nI A.lv) 2 from inbN (by omega) (by omega)), nI_clamp (n := A.lv) (by omega), hm.1.2.2.2.nG, if_neg (nI_nlt (by omega) (by omega))])
      have fin : ∃ m, (if b.1 < 0 then some (b.1, b.2) else if a1 = 0 then some (b.1, b.2) else (fX11_paysOf b.1 b.2).bind fun q7 => some (q7.1, q7.2)) = some (if a1 = 0 then py1 (pyr A.T A.S A.T.nG) else py2 A.T A.S (pyr A.T A.S A.T.nG), m) := by
        rw [i1]
        cases p : pyr A.T A.S A.T.nG with
        | none =>
          refine ⟨b.2, ?_⟩
          rw [if_pos (show py1 none < 0 by decide)]
          split <;> rfl
        | some g =>
          have pb := pyr_in p
          rw [if_neg (show ¬ py1 (some g) < 0 from nI_pos (by omega))]
          by_cases z : a1 = 0
          · rw [if_pos z, if_pos z]; exact ⟨b.2, rfl⟩
          · rw [if_neg z, if_neg z]
            obtain ⟨⟨q, e⟩, _⟩ := r_gOf i2.1 i2.2.1 hA.S (g := g) (by omega)
            refine ⟨q, ?_⟩
            rw [show py1 (some g) = nI g from rfl, e, bind_s]; rfl
      obtain ⟨m, e2⟩ := fin
      exact ⟨m, Eq.trans e e2⟩
  · refine ⟨-1, μ, μ, ?_, ?_, A, hA, hc, hr⟩
    · unfold fX10_payer
      rw [c_two, bind_s, if_neg (by simpa using w)]
    · unfold fX11_payer
      rw [r_two, bind_s, if_neg (by simpa using w)]
/-! best -/
def bst (T : Txt) (S : St) (s : Nat) : Nat → Int32 × Int32
  | 0 => (0, sellV T S s)
  | k + 1 => if (bst T S s k).2 < sellV T (itW T none (k + 1) S) s then (nI (k + 1), sellV T (itW T none (k + 1) S) s) else bst T S s k
theorem sp_best : st_best Inv := by
  intro μ a1 a2 a3 ⟨A, hA, hc, hr⟩
  have s4 := hA.T.s4
  have no1 : (a1 < 0 ∨ nI A.T.nS ≤ a1) → ∃ (r : Int32) (μ1 μ2 : Mem), fX10_best a1 a2 a3 μ = some (r, μ1) ∧ fX11_best a1 a2 a3 μ1 = some (r, μ2) ∧ Inv μ2 := by
    intro h
    refine ⟨-1, μ, μ, ?_, ?_, A, hA, hc, hr⟩
    · unfold fX10_best; rw [c_isSunday_no hc h s4, bind_s, if_neg (by decide)]
    · unfold fX11_best; rw [r_isForSale_no hA hr h, bind_s, if_neg (by decide)]
  rcases pk_ix a1 (n := A.T.nS) (by omega) with h | h | ⟨s, hs, rfl⟩
  · exact no1 (Or.inl h)
  · exact no1 (Or.inr h)
  cases sd : A.S.sd s with
  | true =>
    refine ⟨-1, μ, μ, ?_, ?_, A, hA, hc, hr⟩
    · unfold fX10_best; rw [c_isSunday_yes hc hs s4, bind_s, if_pos rfl, c_isSold hc.S (by omega), bind_s, if_pos sd]
    · unfold fX11_best; rw [r_isForSale hA hr hs, bind_s, sd, if_neg (by decide)]
  | false =>
    by_cases w : ¬ a2 < 0 ∧ ¬ 40 < a2
    · obtain ⟨N, hN, rfl⟩ := wk_of w
      by_cases w3 : a3 = 0 ∨ a3 = 1
      · refine qmm hA hc hr (F := fX10_best (nI s) (nI N) a3) (G := fX11_best (nI s) (nI N) a3) (if a3 = 0 then (bst A.T A.S s N).1 else (bst A.T A.S s N).2) ?_ ?_ (frX10_best _ _ _ μ) (frX11_best _ _ _) (by decide) (by decide) (by decide) (by decide)
        · obtain ⟨m, e, t, z, c⟩ := c_ahead hc
          unfold fX10_best
          rw [c_isSunday_yes hc hs s4, bind_s, if_pos rfl, c_isSold hc.S (by omega), bind_s, if_neg (by rw [sd]; decide), c_isWeeks, bind_s, wk_dec hN, if_pos rfl, c_two, bind_s, if_pos (by simpa using w3), e, bind_s]
          obtain ⟨m3, k3⟩ : ∃ m2, fX1_ofSunday 3 199 13 (nI s) m = some (sellV A.T A.S s, m2) := c_ofSunday (k := 3) (by omega) (by omega) hA.T hA.S t z (by omega) hs
          have f3 := frX1_ofSunday _ _ _ _ _ _ k3
          rw [k3, bind_s]
          obtain ⟨b, e2, _, i1, i2, i3⟩ := lupE (L := fun n v (a : Int32 × Int32 × Mem) => fX10_best_73 (nI s) (nI N) a3 (fun y9 y10 μ11 => if a3 = 0 then some (y9, μ11) else some (y10, μ11)) n a.1 a.2.1 v a.2.2) (K := fun a => if a3 = 0 then some (a.1, a.2.2) else some (a.2.1, a.2.2)) (N + 1) (fun i a => 1 ≤ i ∧ (a.1, a.2.1) = bst A.T A.S s (i - 1) ∧ cT 199 A.T a.2.2 ∧ cS 13 (itW A.T none (i - 1) A.S) a.2.2)
            (by
              rintro n i ⟨x, y, m⟩ hi ⟨h1, hxy, mT, mS⟩
              obtain ⟨j, rfl⟩ : ∃ j, i = j + 1 := ⟨i - 1, by omega⟩
              have hxy : (x, y) = bst A.T A.S s j := hxy
              have mT : cT 199 A.T m := mT
              have mS : cS 13 (itW A.T none j A.S) m := mS
              have hx : x = (bst A.T A.S s j).1 := by rw [← hxy]
              have hy : y = (bst A.T A.S s j).2 := by rw [← hxy]
              obtain ⟨q, e1, t1, z1⟩ := c_passWeek (u := 13) (by omega) hA.T (hA.S.it none j) mT mS
              obtain ⟨q2, e2⟩ : ∃ m2, fX1_ofSunday 3 199 13 (nI s) q = some (sellV A.T (itW A.T none (j + 1) A.S) s, m2) := c_ofSunday (k := 3) (by omega) (by omega) hA.T (hA.S.it none (j + 1)) t1 z1 (by omega) hs
              have f2 := frX1_ofSunday _ _ _ _ _ _ e2
              have t2 : cT 199 A.T q2 := t1.sm (FrL.sm f2 (by omega))
              have z2 : cS 13 (itW A.T none (j + 1) A.S) q2 := z1.sm (FrL.sm f2 (by omega))
              show ∃ b : Int32 × Int32 × Mem, fX10_best_73 _ _ _ _ (n + 1) x y (nI (j + 1)) m = _ ∧ _
              rw [fX10_best_73, if_neg (nI_nlt (by omega) (by omega)), e1, bind_s, e2, bind_s, hy, nI_1]
              by_cases c : (bst A.T A.S s j).2 < sellV A.T (itW A.T none (j + 1) A.S) s
              · rw [if_pos c]
                exact ⟨(nI (j + 1), sellV A.T (itW A.T none (j + 1) A.S) s, q2), rfl, by omega, (show (nI (j + 1), sellV A.T (itW A.T none (j + 1) A.S) s) = bst A.T A.S s (j + 1) by rw [bst, if_pos c]), t2, z2⟩
              · rw [if_neg c]
                exact ⟨(x, (bst A.T A.S s j).2, q2), rfl, by omega, (show (x, (bst A.T A.S s j).2) = bst A.T A.S s (j + 1) by rw [bst, if_neg c, hx]), t2, z2⟩)
            (by
              rintro n ⟨x, y, m⟩ _
              show fX10_best_73 _ _ _ _ (n + 1) x y (nI (N + 1)) m = _
              rw [fX10_best_73, if_pos (nI_lt (by omega) (by omega))])
            N 1 (4096 - (N + 1)) ((0 : Int32), sellV A.T A.S s, m3) (by omega) ⟨by omega, rfl, t.sm (FrL.sm f3 (by omega)), z.sm (FrL.sm f3 (by omega))⟩
          rw [show N + 1 + (4096 - (N + 1)) = FU by unfold FU; omega] at e2
          refine ⟨b.2.2, Eq.trans e2 ?_⟩
          have i1 : (b.1, b.2.1) = bst A.T A.S s N := i1
          rw [← i1]
          show (if a3 = 0 then some (b.1, b.2.2) else some (b.2.1, b.2.2)) = _
          split <;> rfl
        · intro μ' hr'
          obtain ⟨m0, e0, z0, _⟩ := r_sz hA hr'
          unfold fX11_best
          rw [r_isForSale hA hr' hs, bind_s, sd, if_pos (by decide), r_isLong, bind_s, wk_dec hN, if_pos rfl, r_two, bind_s, if_pos (by simpa using w3), e0, bind_s]
          obtain ⟨b, e2, i1, _⟩ := lupX (L := fun n v (a : Int32 × Int32 × Mem) => fX11_best_39 (nI s) (nI N) a3 (fun y9 y10 μ11 => if a3 = 0 then some (y9, μ11) else some (y10, μ11)) n a.1 a.2.1 v a.2.2) (K := fun a => if a3 = 0 then some (a.1, a.2.2) else some (a.2.1, a.2.2)) (a := ((-1 : Int32), (-1 : Int32), m0)) (N + 1) (fun i a => (a.1, a.2.1) = (if i = 0 then (-1, -1) else bst A.T A.S s (i - 1)) ∧ rZ A.lv A.T (nI A.T.se) 1 (itW A.T none i A.S) a.2.2) (by omega) ⟨rfl, z0⟩
            (by
              rintro n i ⟨x, y, m⟩ hi ⟨hxy, hm⟩
              have hm : rZ A.lv A.T (nI A.T.se) 1 (itW A.T none i A.S) m := hm
              have hxy : (x, y) = (if i = 0 then (-1, -1) else bst A.T A.S s (i - 1)) := hxy
              obtain ⟨q, e1⟩ := r_sellsOf hm.1 hm.2.1 (hA.S.it none i) hs
              have z1 := hm.fr (frX11_sellsOf _ _ _ e1) (by decide)
              obtain ⟨q2, e2⟩ := r_sellsOf z1.1 z1.2.1 (hA.S.it none i) hs
              have z2 := z1.fr (frX11_sellsOf _ _ _ e2) (by decide)
              obtain ⟨q3, e3, z3⟩ := r_weekGoes (d := nI A.T.se) none (hA.S.it none i) z1
              obtain ⟨q4, e4, z4⟩ := r_weekGoes (d := nI A.T.se) none (hA.S.it none i) z2
              have gn := lawV_N A.T 3 (vsS A.T (itW A.T none i A.S) s)
              show ∃ b : Int32 × Int32 × Mem, fX11_best_39 _ _ _ _ (n + 1) x y (nI i) m = _ ∧ _
              rw [fX11_best_39, if_neg (nI_nlt (by omega) (by omega)), e1, bind_s, nI_1]
              rw [show (if i + 1 = 0 then ((-1 : Int32), (-1 : Int32)) else bst A.T A.S s (i + 1 - 1)) = bst A.T A.S s i by rw [if_neg (by omega)]; rfl]
              rcases i with _ | j
              · rw [if_pos rfl] at hxy
                have hy : y = -1 := (Prod.mk.inj hxy).2
                have c : y < sellV A.T (itW A.T none 0 A.S) s := by
                  rw [hy]
                  unfold sellV
                  rw [gn.1, Int32.lt_iff_toInt_lt, nI_toInt (by omega)]
                  have : (-1 : Int32).toInt = -1 := by decide
                  omega
                rw [if_pos c, e2, bind_s, e4, bind_s]
                exact ⟨(nI 0, sellV A.T (itW A.T none 0 A.S) s, q4), rfl, rfl, z4⟩
              · rw [if_neg (by omega)] at hxy
                have hxy : (x, y) = bst A.T A.S s j := hxy
                have hx : x = (bst A.T A.S s j).1 := by rw [← hxy]
                have hy : y = (bst A.T A.S s j).2 := by rw [← hxy]
                rw [hy]
                by_cases c : (bst A.T A.S s j).2 < sellV A.T (itW A.T none (j + 1) A.S) s
                · rw [if_pos c, e2, bind_s, e4, bind_s]
                  exact ⟨(nI (j + 1), sellV A.T (itW A.T none (j + 1) A.S) s, q4), rfl, (show (nI (j + 1), sellV A.T (itW A.T none (j + 1) A.S) s) = bst A.T A.S s (j + 1) by rw [bst, if_pos c]), z4⟩
                · rw [if_neg c, e3, bind_s]
                  exact ⟨(x, (bst A.T A.S s j).2, q3), rfl, (show (x, (bst A.T A.S s j).2) = bst A.T A.S s (j + 1) by rw [bst, if_neg c, hx]), z3⟩)
            (by
              rintro n ⟨x, y, m⟩ _
              show fX11_best_39 _ _ _ _ (n + 1) x y (nI (N + 1)) m = _
              rw [fX11_best_39, if_pos (nI_lt (by omega) (by omega))])
          refine ⟨b.2.2, Eq.trans e2 ?_⟩
          rw [if_neg (by omega)] at i1
          have i1 : (b.1, b.2.1) = bst A.T A.S s N := i1
          rw [← i1]
          show (if a3 = 0 then some (b.1, b.2.2) else some (b.2.1, b.2.2)) = _
          split <;> rfl
      · refine ⟨-1, μ, μ, ?_, ?_, A, hA, hc, hr⟩
        · unfold fX10_best
          rw [c_isSunday_yes hc hs s4, bind_s, if_pos rfl, c_isSold hc.S (by omega), bind_s, if_neg (by rw [sd]; decide), c_isWeeks, bind_s, wk_dec hN, if_pos rfl, c_two, bind_s, if_neg (by simpa using w3)]
        · unfold fX11_best
          rw [r_isForSale hA hr hs, bind_s, sd, if_pos (by decide), r_isLong, bind_s, wk_dec hN, if_pos rfl, r_two, bind_s, if_neg (by simpa using w3)]
    · refine ⟨-1, μ, μ, ?_, ?_, A, hA, hc, hr⟩
      · unfold fX10_best
        rw [c_isSunday_yes hc hs s4, bind_s, if_pos rfl, c_isSold hc.S (by omega), bind_s, if_neg (by rw [sd]; decide), c_isWeeks, bind_s, if_neg (by simpa using w)]
      · unfold fX11_best
        rw [r_isForSale hA hr hs, bind_s, sd, if_pos (by decide), r_isLong, bind_s, if_neg (by simpa using w)]

/-! year -/
theorem sp_year : st_year Inv := by
  intro μ a1 a2 a3 ⟨A, hA, hc, hr⟩
  have g7 := hA.T.g7
  have no1 : (a1 < 0 ∨ nI A.T.nG ≤ a1) → ∃ (r : Int32) (μ1 μ2 : Mem), fX10_year a1 a2 a3 μ = some (r, μ1) ∧ fX11_year a1 a2 a3 μ1 = some (r, μ2) ∧ Inv μ2 := by
    intro h
    refine ⟨-1, μ, μ, ?_, ?_, A, hA, hc, hr⟩
    · unfold fX10_year; rw [c_isGuest_no hc h g7, bind_s, if_neg (by decide)]
    · unfold fX11_year; rw [r_isGuest_no (hr.rX hA) h, bind_s, if_neg (by decide)]
  rcases pk_ix a1 (n := A.T.nG) (by omega) with h | h | ⟨g, hg, rfl⟩
  · exact no1 (Or.inl h)
  · exact no1 (Or.inr h)
  by_cases w : ¬ a2 < 0 ∧ ¬ 40 < a2
  · obtain ⟨N, hN, rfl⟩ := wk_of w
    by_cases w3 : ¬ a3 < 1 ∧ ¬ 20 < a3
    · obtain ⟨M, hM1, hM, rfl⟩ := in_of (a := 1) (b := 20) (by omega) (by omega) rfl rfl w3
      have b14 : inb (nI (14 + g)) 31 := inbN (by omega) (by omega)
      have c14 : (nI (14 + g)).toNatClampNeg = 14 + g := nI_clamp (by omega)
      have a14 : (14 : Int32) + nI g = nI (14 + g) := by rw [L_14, nI_add]
      refine qmm hA hc hr (F := fX10_year (nI g) (nI N) (nI M)) (G := fX11_year (nI g) (nI N) (nI M)) (smv (fun k => if (itW A.T (some (nI A.T.se + nI k)) N A.S).dd g = true then 0 else 1) M) ?_ ?_ (frX10_year _ _ _ μ) (frX11_year _ _ _) (by decide) (by decide) (by decide) (by decide)
      · unfold fX10_year
        rw [c_isGuest_yes hc hg g7, bind_s, if_pos rfl, c_isWeeks, bind_s, wk_dec hN, if_pos rfl, if_neg w3.1, if_neg w3.2]
        obtain ⟨b, e, i1, i2⟩ := lupX (L := fun n v (a : Int32 × Mem) => fX10_year_35 (nI g) (nI N) (nI M) (fun y6 μ7 => some (y6, μ7)) n a.1 v a.2) (K := fun a => some (a.1, a.2)) (a := ((0 : Int32), μ)) M (fun i a => a.1 = smv (fun k => if (itW A.T (some (nI A.T.se + nI k)) N A.S).dd g = true then 0 else 1) i ∧ CInv A a.2) (by omega) ⟨rfl, hc⟩
          (by
            rintro n i ⟨x, m⟩ hi ⟨hx, hm⟩
            have hm : CInv A m := hm
            have hx : x = smv (fun k => if (itW A.T (some (nI A.T.se + nI k)) N A.S).dd g = true then 0 else 1) i := hx
            obtain ⟨m1, e1, t1, z1, c1⟩ := c_ahead hm
            obtain ⟨q, e2, t2, z2⟩ := c_passDeadly (u := 13) (by omega) hA.T hA.S t1 z1 (nI A.T.se + nI i) hN
            have f2 : Fr (WX1_passDeadlyWeeks 199 13) m1 q := frX1_passDeadlyWeeks _ _ _ _ _ _ e2
            have c2 := CInv.ag c1 (agC f2 (by decide))
            show ∃ b : Int32 × Mem, fX10_year_35 _ _ _ _ (n + 1) x (nI i) m = _ ∧ _
            rw [fX10_year_35, if_pos (nI_lt hi (by omega)), e1, bind_s, show m1.1 199 9 = nI A.T.se from t1.se, e2, bind_s, c_isDead z2 (by omega), bind_s, nI_1, smv]
            cases d : (itW A.T (some (nI A.T.se + nI i)) N A.S).dd g with
            | true => rw [if_pos rfl]; exact ⟨(x, q), rfl, (show x = _ by rw [if_pos rfl, ad0]; exact hx), c2⟩
            | false => rw [if_neg (by decide)]; exact ⟨(x + 1, q), rfl, (show x + 1 = _ by rw [if_neg (by decide), hx]), c2⟩)
          (by
            rintro n ⟨x, m⟩ _
            show fX10_year_35 _ _ _ _ (n + 1) x (nI M) m = _
            rw [fX10_year_35, if_neg (nI_nlt (by omega) (by omega))])
        refine ⟨b.2, Eq.trans e ?_⟩
        rw [← i1]
      · intro μ' hr'
        unfold fX11_year
        rw [r_isGuest_yes (hr'.rX hA) hg, bind_s, if_pos rfl, r_isLong, bind_s, wk_dec hN, if_pos rfl, in_eq, bind_s, if_pos (by simpa using w3)]
        obtain ⟨b, e, i1, i2⟩ := lupX (L := fun n v (a : Int32 × Mem) => fX11_year_33 (nI g) (nI N) (nI M) (fun y6 μ7 => some (y6, μ7)) n a.1 v a.2) (K := fun a => some (a.1, a.2)) (a := ((0 : Int32), μ')) M (fun i a => a.1 = smv (fun k => if (itW A.T (some (nI A.T.se + nI k)) N A.S).dd g = true then 0 else 1) i ∧ RInv A a.2) (by omega) ⟨rfl, hr'⟩
          (by
            rintro n i ⟨x, m⟩ hi ⟨hx, hm⟩
            have hm : RInv A m := hm
            have hx : x = smv (fun k => if (itW A.T (some (nI A.T.se + nI k)) N A.S).dd g = true then 0 else 1) i := hx
            obtain ⟨m1, e1, z1, r1⟩ := r_cz hA hm
            have r2 : RInv A (wI m1 243 52 (nI A.T.se + nI i)) := r1.ag (fun a j hp => ⟨by rw [wI_i, if_neg (by unfold rP at hp; omega)], rfl⟩)
            have z2 : rZ A.lv A.T (nI A.T.se + nI i) 0 A.S (wI m1 243 52 (nI A.T.se + nI i)) := ⟨r2.rX hA, z1.2.1.sm (Sm.wI (by omega)), by rw [wI_i, if_pos ⟨rfl, rfl⟩], by rw [wI_i, if_neg (by omega)]; exact z1.2.2.2⟩
            obtain ⟨q, e2, z3⟩ := r_goes (d := 0) (some (nI A.T.se + nI i)) hA.S z2 hN
            have f2 : Fr WX11_goes _ q := frX11_goes _ _ _ e2
            have r3 := RInv.ag r2 (agR f2 (by decide))
            have dd := z3.2.1.dd g (by omega)
            rw [Nat.zero_add] at dd
            show ∃ b : Int32 × Mem, fX11_year_33 _ _ _ _ (n + 1) x (nI i) m = _ ∧ _
            rw [fX11_year_33, if_pos (nI_lt hi (by omega)), e1, bind_s, nm_ap, z1.2.2.1, e2, bind_s]
            simp only [a14, if_pos b14, c14]
            rw [dd, nI_1, smv]
            cases d : (itW A.T (some (nI A.T.se + nI i)) N A.S).dd g with
            | true => rw [if_neg (by decide)]; exact ⟨(x, q), rfl, (show x = _ by rw [if_pos rfl, ad0]; exact hx), r3⟩
            | false => rw [if_pos (by decide)]; exact ⟨(x + 1, q), rfl, (show x + 1 = _ by rw [if_neg (by decide), hx]), r3⟩)
          (by
            rintro n ⟨x, m⟩ _
            show fX11_year_33 _ _ _ _ (n + 1) x (nI M) m = _
            rw [fX11_year_33, if_neg (nI_nlt (by omega) (by omega))])
        refine ⟨b.2, Eq.trans e ?_⟩
        rw [← i1]
    · refine ⟨-1, μ, μ, ?_, ?_, A, hA, hc, hr⟩
      · unfold fX10_year
        rw [c_isGuest_yes hc hg g7, bind_s, if_pos rfl, c_isWeeks, bind_s, wk_dec hN, if_pos rfl]
        by_cases w1 : a3 < 1
        · rw [if_pos w1]
        · by_cases w2 : 20 < a3
          · rw [if_neg w1, if_pos w2]
          · exact absurd ⟨w1, w2⟩ w3
      · unfold fX11_year
        rw [r_isGuest_yes (hr.rX hA) hg, bind_s, if_pos rfl, r_isLong, bind_s, wk_dec hN, if_pos rfl, in_eq, bind_s, if_neg (by simpa using w3)]
  · refine ⟨-1, μ, μ, ?_, ?_, A, hA, hc, hr⟩
    · unfold fX10_year
      rw [c_isGuest_yes hc hg g7, bind_s, if_pos rfl, c_isWeeks, bind_s, if_neg (by simpa using w)]
    · unfold fX11_year
      rw [r_isGuest_yes (hr.rX hA) hg, bind_s, if_pos rfl, r_isLong, bind_s, if_neg (by simpa using w)]
