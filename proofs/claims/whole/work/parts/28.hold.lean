/-! ===== hold, restore, undo ===== -/
theorem copyFrom_full {t0 t1 : Nat} {S : St} {μ : Mem} (h : t0 + 3 < t1 ∨ t1 + 3 < t0) (hS : cS t1 S μ) :
    ∃ m, fX5_copyFrom t0 t1 μ = some m ∧ cS t0 S m ∧ ∀ a j, (a < t0 ∨ t0 + 3 < a) → m.1 a j = μ.1 a j ∧ m.2 a j = μ.2 a j := by
  obtain ⟨m, e, hm⟩ := copyFrom_spec h hS
  refine ⟨m, e, hm, fun a j ha => frX5_copyFrom t0 t1 μ m e a j ?_⟩
  simp [WX5_copyFrom, inW]
  omega
theorem bs_set {p : Nat → Bool} {n s : Nat} (h : s < n) : bs p n ||| 2 ^ s = bs (fun i => (i == s) || p i) n := by
  apply eq_bits (n := n)
  · exact Nat.or_lt_two_pow (bs_lt p n) (Nat.pow_lt_pow_right (by decide) h)
  · exact bs_lt _ n
  · intro g hg
    rw [Nat.testBit_or, bs_bit, bs_bit, Nat.testBit_two_pow]
    by_cases e : g = s
    · subst e; simp [hg]
    · have e2 : ¬ s = g := fun q => e q.symm
      simp [e, e2, hg]
theorem Sm.two {lo hi : Nat} {a b c : Mem} (h : Sm lo hi a b) (k : Sm lo hi b c) : Sm lo hi a c := fun x j h1 h2 => ⟨(k x j h1 h2).1.trans (h x j h1 h2).1, (k x j h1 h2).2.trans (h x j h1 h2).2⟩
theorem Sm.wI {lo hi : Nat} {μ : Mem} {a j : Nat} {v : Int32} (h : a < lo ∨ hi < a) : Sm lo hi μ (wI μ a j v) := by
  intro x k h1 h2
  refine ⟨?_, rfl⟩
  rw [wI_i, if_neg (by omega)]
theorem sp_hold : st_hold Inv := by
  intro μ a1 ⟨A, hA, hc, hr⟩
  have hin : ∀ (m : Mem), fX11_in a1 0 2 m = some (decide (¬ a1 < 0 ∧ ¬ (2 : Int32) < a1)) := by
    intro m; unfold fX11_in
    by_cases h1 : a1 < 0
    · rw [if_pos h1]; simp [h1]
    · rw [if_neg h1]
      by_cases h2 : (2 : Int32) < a1
      · rw [if_pos h2]; simp [h2]
      · rw [if_neg h2]; simp [h1, h2]
  by_cases h1 : a1 < 0
  · refine ⟨false, μ, μ, ?_, ?_, A, hA, hc, hr⟩
    · unfold fX10_hold; rw [if_pos h1]
    · unfold fX11_hold; rw [hin, bind_s]; simp [h1]
  obtain ⟨s, hs, rfl⟩ := nI_of h1
  by_cases h2 : s < 3
  · obtain ⟨m1, e1, c1, f1⟩ := copyFrom_full (t0 := 231 + 4 * s) (t1 := 9) (by omega) hc.S
    have n2 : ¬ (2 : Int32) < nI s := by rw [L_2]; exact nI_nlt (by omega) (by omega)
    have q1 : fX10_hold (nI s) μ = some (true, wI m1 0 11 (nI (bs (fun i => (i == s) || (A.he i).isSome) 3))) := by
      unfold fX10_hold
      rw [if_neg h1, if_pos (c_lt L_3 h2 (by omega)), if_pos (inbN h2 (by omega)), nI_clamp (by omega), e1, bind_s, nm_ap, (f1 0 11 (by omega)).1, hc.hh, nI_shl s (by omega), nI_or, bs_set h2]
    have fr1 : Fr WX10_hold μ _ := frX10_hold (nI s) μ _ q1
    have r1 := hr.ag (agR fr1 (by decide))
    have q2 : fX11_hold (nI s) (wI m1 0 11 (nI (bs (fun i => (i == s) || (A.he i).isSome) 3))) = some (true, cp (wI (wI m1 0 11 (nI (bs (fun i => (i == s) || (A.he i).isSome) 3))) 287 s 1) 288 (31 * s) 276 0 31) := by
      unfold fX11_hold
      rw [hin, bind_s, if_pos (by simp [h1, n2]), if_pos (inbN h2 (by omega)), nm_ap, hold_loop _ h2, nI_clamp (by omega)]
      rfl
    have fr2 : Fr WX11_hold _ _ := frX11_hold (nI s) _ _ q2
    refine ⟨true, _, _, q1, q2, _, hA.hold (x := fun i => if i = s then some A.S else A.he i) ?_, ?_, ?_⟩
    · intro i st hi
      by_cases e : i = s
      · rw [if_pos e] at hi; cases hi; exact hA.S
      · rw [if_neg e] at hi; exact hA.he i st hi
    · refine CInv.ag (CInv.hold hc (Ag.of fr1 (dj_of cPh_L (by decide))) ?_ ?_) (agC fr2 (by decide))
      · show nI _ = nI _
        congr 1
        apply bs_ext
        intro g _
        by_cases e : g = s
        · simp [e]
        · simp [e]
      · intro i st hi hst
        by_cases e : i = s
        · rw [if_pos e] at hst; cases hst; subst e
          exact c1.sm (Sm.wI (by omega))
        · rw [if_neg e] at hst
          refine (hc.he i st hi hst).sm (Sm.two (b := m1) ?_ (Sm.wI (by omega)))
          intro a j k1 k2
          exact f1 a j (by omega)
    · refine r1.hold (Ag.of fr2 (dj_of rPh_L (by decide))) ?_ ?_
      · intro i hi
        rw [cp_i, if_neg (by omega), wI_i]
        by_cases e : i = s
        · rw [if_pos ⟨rfl, e⟩, if_pos e]; rfl
        · rw [if_neg (by omega), if_neg e]; exact r1.hh i hi
      · intro i st hi hst
        by_cases e : i = s
        · rw [if_pos e] at hst; cases hst; subst e
          refine rS.cp_new ?_
          exact r1.S.sm (Sm.wI (by omega))
        · rw [if_neg e] at hst
          refine (r1.he i st hi hst).eq ?_
          intro k hk
          rw [cp_i, if_neg (by omega), wI_i, if_neg (by omega)]
  · have h3 : (2 : Int32) < nI s := by rw [L_2]; exact nI_lt (by omega) hs
    refine ⟨false, μ, μ, ?_, ?_, A, hA, hc, hr⟩
    · unfold fX10_hold; rw [if_neg h1, if_neg (c_nlt L_3 (by omega) hs)]
    · unfold fX11_hold; rw [hin, bind_s]; simp [h3]
theorem in_eq (x a b : Int32) (m : Mem) : fX11_in x a b m = some (decide (¬ x < a ∧ ¬ b < x)) := by
  unfold fX11_in
  by_cases h1 : x < a
  · rw [if_pos h1]; simp [h1]
  · rw [if_neg h1]
    by_cases h2 : b < x
    · rw [if_pos h2]; simp [h2]
    · rw [if_neg h2]; simp [h1, h2]
theorem sp_restore : st_restore Inv := by
  intro μ a1 ⟨A, hA, hc, hr⟩
  by_cases h1 : a1 < 0
  · refine ⟨false, μ, μ, ?_, ?_, A, hA, hc, hr⟩
    · unfold fX10_restore; rw [if_pos h1]
    · unfold fX11_restore; rw [in_eq, bind_s]; simp [h1]
  obtain ⟨s, hs, rfl⟩ := nI_of h1
  by_cases h2 : s < 3
  · have n2 : ¬ (2 : Int32) < nI s := by rw [L_2]; exact nI_nlt (by omega) (by omega)
    have hbit : (nI (bs (fun i => (A.he i).isSome) 3) >>> (nI s &&& 31)) &&& 1 = nI (bs (fun i => (A.he i).isSome) 3 / 2 ^ s % 2) := nI_bit (bs_lt31 _ (by omega)) (by omega)
    have hbt : (bs (fun i => (A.he i).isSome) 3).testBit s = (A.he s).isSome := by rw [bs_bit]; simp [h2]
    cases hst : A.he s with
    | none =>
      have hz : nI (bs (fun i => (A.he i).isSome) 3 / 2 ^ s % 2) = 0 := bit_zero.2 (by rw [hbt, hst]; rfl)
      refine ⟨false, μ, μ, ?_, ?_, A, hA, hc, hr⟩
      · unfold fX10_restore
        rw [if_neg h1, if_pos (c_lt L_3 h2 (by omega)), hc.hh, hbit, if_pos hz]
      · unfold fX11_restore
        rw [in_eq, bind_s, if_pos (by simp [h1, n2]), if_pos (inbN h2 (by omega)), nI_clamp (by omega), hr.hh s h2, hst, if_pos (by rfl)]
    | some S =>
      have hz : ¬ nI (bs (fun i => (A.he i).isSome) 3 / 2 ^ s % 2) = 0 := fun q => by
        have := bit_zero.1 q; rw [hbt, hst] at this; cases this
      obtain ⟨m1, e1, c1, f1⟩ := copyFrom_full (t0 := 9) (t1 := 231 + 4 * s) (by omega) (hc.he s S h2 hst)
      have q1 : fX10_restore (nI s) μ = some (true, wI m1 17 0 0) := by
        unfold fX10_restore
        rw [if_neg h1, if_pos (c_lt L_3 h2 (by omega)), hc.hh, hbit, if_neg hz, if_pos (inbN h2 (by omega)), nI_clamp (by omega), e1, bind_s, nm_ap]
      have fr1 : Fr WX10_restore μ _ := frX10_restore (nI s) μ _ q1
      have r1 := hr.ag (agR fr1 (by decide))
      have q2 : fX11_restore (nI s) (wI m1 17 0 0) = some (true, wI (cp (wI m1 17 0 0) 276 0 288 (31 * s) 31) 243 56 0) := by
        unfold fX11_restore
        rw [in_eq, bind_s, if_pos (by simp [h1, n2]), if_pos (inbN h2 (by omega)), nI_clamp (by omega), r1.hh s h2, hst, if_neg (show ¬ b2i (some S).isSome = 0 from (by decide : ¬ b2i true = 0)), restore_loop _ h2, nm_ap]
      have fr2 : Fr WX11_restore _ _ := frX11_restore (nI s) _ _ q2
      refine ⟨true, _, _, q1, q2, _, hA.go (S := S) (n := 0) (x := A.hi) (hA.he s S hst) (by omega) (by intro i hi; omega), ?_, ?_⟩
      · refine CInv.ag (CInv.go hc (Ag.of fr1 (dj_of cPg_L (by decide))) ?_ ?_ ?_) (agC fr2 (by decide))
        · exact c1.sm (Sm.wI (by omega))
        · rfl
        · obtain ⟨p, hp, hp2, _⟩ := hc.hi
          refine ⟨p, hp, ?_, by intro i hi; omega⟩
          rw [wI_i, if_neg (by omega), (f1 17 2 (by omega)).1]; exact hp2
      · refine r1.go (Ag.of fr2 (dj_of rPg_L (by decide))) ?_ rfl (by intro i hi; omega)
        exact rS.sm (rS.cp_new (r1.he s S h2 hst)) (Sm.wI (by omega))
  · have h3 : (2 : Int32) < nI s := by rw [L_2]; exact nI_lt (by omega) hs
    refine ⟨false, μ, μ, ?_, ?_, A, hA, hc, hr⟩
    · unfold fX10_restore; rw [if_neg h1, if_neg (c_nlt L_3 (by omega) hs)]
    · unfold fX11_restore; rw [in_eq, bind_s]; simp [h3]
theorem sp_undo : st_undo Inv := by
  intro μ ⟨A, hA, hc, hr⟩
  have hk := hA.k
  obtain ⟨p, hp, hp2, hp3⟩ := hc.hi
  by_cases h0 : A.k = 0
  · refine ⟨false, μ, μ, ?_, ?_, A, hA, hc, hr⟩
    · unfold fX10_undo fX9_takeBack; rw [hc.hn, h0, if_pos nI_0]; rfl
    · unfold fX11_undo; rw [hr.hn, h0, if_pos nI_0]
  have n0 : ¬ nI A.k = 0 := nI_ne0 (by omega) (by omega)
  have e40 : irm ((nI p + 40) - 1) 40 = nI ((p + 39) % 40) := by
    unfold irm
    rw [L_40, nI_add, show p + 40 = (p + 39) + 1 by omega, nI_pred, pk_rem (by omega) (by omega) (by omega)]
  have hq : (p + 39) % 40 < 40 := Nat.mod_lt _ (by omega)
  obtain ⟨m1, e1, c1, f1⟩ := copyFrom_full (t0 := 9) (t1 := 19 + 4 * ((p + 39) % 40)) (μ := wI μ 17 2 (nI ((p + 39) % 40))) (S := A.hi (A.k - 1)) (by omega) (by
    have := hp3 (A.k - 1) (by omega)
    rw [show p + 40 - A.k + (A.k - 1) = p + 39 by omega] at this
    exact this.sm (Sm.wI (by omega)))
  have q1 : fX10_undo μ = some (true, wI m1 17 0 (nI (A.k - 1))) := by
    unfold fX10_undo fX9_takeBack
    have ek : m1.1 17 0 = nI A.k := by rw [(f1 17 0 (by omega)).1, wI_i, if_neg (by omega)]; exact hc.hn
    have ew : (wI μ 17 2 (nI ((p + 39) % 40))).1 17 2 = nI ((p + 39) % 40) := by rw [wI_i, if_pos ⟨rfl, rfl⟩]
    have es : nI A.k - 1 = nI (A.k - 1) := by
      have := nI_pred (A.k - 1); rwa [show A.k - 1 + 1 = A.k by omega] at this
    rw [hc.hn, if_neg n0, hp2, e40, nm_ap, ew, if_pos (inbN hq (by omega)), nI_clamp (by omega), e1, bind_s, nm_ap, ek, es, bind_s]
  have fr1 : Fr WX10_undo μ _ := frX10_undo μ _ q1
  have r1 := hr.ag (agR fr1 (by decide))
  have q2 : fX11_undo (wI m1 17 0 (nI (A.k - 1))) = some (true, cp (wI (wI m1 17 0 (nI (A.k - 1))) 243 56 (nI (A.k - 1))) 276 0 280 (31 * (A.k - 1)) 31) := by
    unfold fX11_undo
    have es : nI A.k - 1 = nI (A.k - 1) := by
      have := nI_pred (A.k - 1); rwa [show A.k - 1 + 1 = A.k by omega] at this
    rw [r1.hn, if_neg n0, nm_ap, es, undo_loop _ (u := A.k - 1) (by omega) (by rw [wI_i, if_pos ⟨rfl, rfl⟩])]
  have fr2 : Fr WX11_undo _ _ := frX11_undo _ _ q2
  refine ⟨true, _, _, q1, q2, _, hA.go (S := A.hi (A.k - 1)) (n := A.k - 1) (x := A.hi) (hA.hi _ (by omega)) (by omega) (by intro i hi; exact hA.hi i (by omega)), ?_, ?_⟩
  · refine CInv.ag (CInv.go hc (Ag.of fr1 (dj_of cPg_L (by decide))) ?_ ?_ ?_) (agC fr2 (by decide))
    · exact c1.sm (Sm.wI (by omega))
    · rfl
    · refine ⟨(p + 39) % 40, hq, ?_, ?_⟩
      · rw [wI_i, if_neg (by omega), (f1 17 2 (by omega)).1, wI_i, if_pos ⟨rfl, rfl⟩]
      · intro i hi
        have := hp3 i (by omega)
        rw [show ((p + 39) % 40 + 40 - (A.k - 1) + i) % 40 = (p + 40 - A.k + i) % 40 by omega]
        refine this.sm (Sm.two (b := m1) ?_ (Sm.wI (by omega)))
        intro a j k1 k2
        have h5 := f1 a j (by omega)
        refine ⟨h5.1.trans ?_, h5.2⟩
        rw [wI_i, if_neg (by omega)]
  · refine r1.go (Ag.of fr2 (dj_of rPg_L (by decide))) ?_ ?_ ?_
    · exact rS.cp_new ((r1.hi (A.k - 1) (by omega)).sm (Sm.wI (by omega)))
    · rw [cp_i, if_neg (by omega), wI_i, if_pos ⟨rfl, rfl⟩]
    · intro i hi
      refine (r1.hi i (by omega)).eq ?_
      intro k hk
      rw [cp_i, if_neg (by omega), wI_i, if_neg (by omega)]
