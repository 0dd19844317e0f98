/-! ===== weeks, sell ===== -/
theorem r_cz {A : Abs} {μ : Mem} (hA : okA A) (hr : RInv A μ) : ∃ m, fX11_copies μ = some m ∧ rZ A.lv A.T (nI A.T.se) 0 A.S m ∧ RInv A m := by
  obtain ⟨m, e1, e2, e3, e4, e5⟩ := r_copies hA hr
  exact ⟨m, e1, ⟨e3.rX hA, e2, e4, e5⟩, e3⟩
theorem r_sz {A : Abs} {μ : Mem} (hA : okA A) (hr : RInv A μ) : ∃ m, fX11_copiesStill μ = some m ∧ rZ A.lv A.T (nI A.T.se) 1 A.S m ∧ RInv A m := by
  obtain ⟨m, e1, e2, e3, e4, e5⟩ := r_copies hA hr
  have q : fX11_copiesStill μ = some (wI m 243 53 1) := by
    unfold fX11_copiesStill
    rw [e1, bind_s, nm_ap]
  have f := frX11_copiesStill _ _ q
  have r := hr.ag (agR f (by decide))
  refine ⟨_, q, ⟨RInv.rX r hA, e2.sm (Sm.wI (by omega)), ?_, ?_⟩, r⟩
  · rw [wI_i, if_neg (by omega)]; exact e4
  · rw [wI_i, if_pos ⟨rfl, rfl⟩]
theorem c_ahead {A : Abs} {μ : Mem} (hc : CInv A μ) : ∃ m, fX5_copyFrom 13 9 μ = some m ∧ cT 199 A.T m ∧ cS 13 A.S m ∧ CInv A m := by
  obtain ⟨m, e, s⟩ := copyFrom_spec (t0 := 13) (t1 := 9) (by omega) hc.S
  have f := frX5_copyFrom _ _ _ _ e
  have c := hc.ag (agC f (by decide))
  exact ⟨m, e, CInv.T c, s, c⟩
theorem c_isWeeks (x : Int32) (μ : Mem) : fX10_isWeeks x μ = some (decide (¬ x < 0 ∧ ¬ 40 < x)) := by
  unfold fX10_isWeeks
  by_cases h0 : x < 0
  · simp [h0]
  · by_cases h1 : 40 < x
    · simp [h1]
    · simp [h0, h1]
theorem r_isLong (x : Int32) (μ : Mem) : fX11_isLong x μ = some (decide (¬ x < 0 ∧ ¬ 40 < x)) := by
  unfold fX11_isLong
  rw [in_eq, bind_s]
theorem wk_of {x : Int32} (h : ¬ x < 0 ∧ ¬ 40 < x) : ∃ n, n ≤ 40 ∧ x = nI n := by
  obtain ⟨n, hn, rfl⟩ := nI_of h.1
  have : ¬ 40 < n := fun q => h.2 ((nI_ltI (a := 40) (by omega) hn).2 q)
  exact ⟨n, by omega, rfl⟩
theorem wk_dec {n : Nat} (h : n ≤ 40) : decide (¬ nI n < 0 ∧ ¬ 40 < nI n) = true := by
  have h1 : ¬ nI n < 0 := nI_pos (by omega)
  have h2 : ¬ (40 : Int32) < nI n := fun q => by have := (nI_ltI (a := 40) (by omega) (by omega)).1 q; omega
  simp [h1, h2]
def cPnL : CellL := [(0, 1, some 11), (1, 2, none), (3, 1, some 1), (8, 1, none), (17, 162, none), (196, 19, none), (231, 12, none)]
theorem cPn_L : ∀ a j, (cP a j ∧ ¬ (9 ≤ a ∧ a ≤ 12)) → inW cPnL a j := by intro a j h; unfold cP at h; simp [cPnL, inW]; omega
theorem agN {μ μ' : Mem} {W} (h : Fr W μ μ') (k : dj cPnL W = true) : Ag (fun a j => cP a j ∧ ¬ (9 ≤ a ∧ a ≤ 12)) μ μ' := Ag.of h (dj_of cPn_L k)
theorem sp_weeks : st_weeks Inv := by
  intro μ a1 ⟨A, hA, hc, hr⟩
  by_cases w : ¬ a1 < 0 ∧ ¬ 40 < a1
  · obtain ⟨n, hn, rfl⟩ := wk_of w
    by_cases z : n = 0
    · subst z
      refine ⟨A.S.wk, μ, μ, ?_, ?_, A, hA, hc, hr⟩
      · unfold fX10_weeks
        rw [c_isWeeks, bind_s, wk_dec hn, if_pos rfl, if_neg (by decide), hc.S.wk]
      · unfold fX11_weeks
        have := hr.S.wk
        rw [Nat.zero_add] at this
        rw [r_isLong, bind_s, wk_dec hn, if_pos rfl, if_pos (by decide), this]
    · obtain ⟨m1, k1, k2⟩ := keepC hc hA.k
      obtain ⟨m4, p1, p2, p3⟩ := c_passDeadly (u := 9) (by omega) hA.T hA.S k2.T k2.S (nI A.T.se) hn
      have se : m1.1 199 9 = nI A.T.se := k2.T.se
      have q1 : fX10_weeks (nI n) μ = some ((itW A.T (some (nI A.T.se)) n A.S).wk, m4) := by
        unfold fX10_weeks
        rw [c_isWeeks, bind_s, wk_dec hn, if_pos rfl, if_pos (by rw [L_0]; exact nI_lt (by omega) (by omega)), k1, bind_s, se, p1, bind_s, p3.wk]
      have fr1 : Fr WX10_weeks μ _ := frX10_weeks _ μ _ q1
      have r1 := hr.ag (agR fr1 (by decide))
      obtain ⟨m5, e1, e2, e3⟩ := r_cz hA r1
      obtain ⟨m6, e4, e5⟩ := r_goes (d := 0) (some (nI A.T.se)) hA.S e2 hn
      have f6 : Fr WX11_goes m5 m6 := frX11_goes _ _ _ e4
      have r6 := e3.ag (agR f6 (by decide))
      obtain ⟨m7, e6, e7⟩ := recordsR r6 hA.k e5.2.1
      have q2 : fX11_weeks (nI n) m4 = some ((itW A.T (some (nI A.T.se)) n A.S).wk, m7) := by
        unfold fX11_weeks
        have := e7.S.wk
        rw [Nat.zero_add] at this
        rw [r_isLong, bind_s, wk_dec hn, if_pos rfl, if_neg (nI_ne0 (by omega) (by omega)), e1, bind_s, e4, bind_s, e6, bind_s, this]
        rfl
      have fr2 : Fr WX11_weeks _ _ := frX11_weeks _ _ _ q2
      refine ⟨_, _, _, q1, q2, _, hA.push (hA.S.it _ n), ?_, e7⟩
      refine CInv.ag ?_ (agC fr2 (by decide))
      exact CInv.now k2 (agN (frX1_passDeadlyWeeks _ _ _ _ _ _ p1) (by decide)) p3
  · refine ⟨-1, μ, μ, ?_, ?_, A, hA, hc, hr⟩
    · unfold fX10_weeks
      rw [c_isWeeks, bind_s, if_neg (by simpa using w)]
    · unfold fX11_weeks
      rw [r_isLong, bind_s, if_neg (by simpa using w)]
def soldS (S : St) (s : Nat) (v : Int32) : St := St.mk S.wh S.re S.dd S.wn (fun i => (i == s) || S.sd i) S.wk (S.mo + v)
theorem okS.sold {T : Txt} {S : St} (h : okS T S) {s : Nat} (hs : s < T.nS) (v : Int32) : okS T (soldS S s v) := by
  refine ⟨h.wh, h.cl, h.re, h.wn, h.dd, ?_⟩
  intro i hi
  have : ((i == s) || S.sd i) = true := hi
  rw [Bool.or_eq_true] at this
  rcases this with e | e
  · have : i = s := by simpa using e
    omega
  · exact h.sd i e
theorem cS.sold {S : St} {μ : Mem} (h : cS 9 S μ) {s : Nat} (hs : s < 4) (v : Int32) : cS 9 (soldS S s v) (wI (wI μ 9 3 (nI (bs S.sd 4 ||| 2 ^ s))) 9 1 (S.mo + v)) := by
  refine ⟨?_, ?_, ?_, ?_, ?_, ?_, ?_⟩
  · rw [wI_i, if_neg (by omega), wI_i, if_neg (by omega)]; exact h.wk
  · rw [wI_i, if_pos ⟨rfl, rfl⟩]; rfl
  · rw [wI_i, if_neg (by omega), wI_i, if_neg (by omega)]; exact h.dd
  · rw [wI_i, if_neg (by omega), wI_i, if_pos ⟨rfl, rfl⟩, bs_set hs]; rfl
  · intro u hu; rw [wI_i, if_neg (by omega), wI_i, if_neg (by omega)]; exact h.wh u hu
  · intro u hu; rw [wI_i, if_neg (by omega), wI_i, if_neg (by omega)]; exact h.wn u hu
  · intro u hu; rw [wI_i, if_neg (by omega), wI_i, if_neg (by omega)]; exact h.re u hu
theorem rS.sold {S : St} {μ : Mem} (h : rS 277 0 S μ) {s : Nat} (hs : s < 4) (v : Int32) : rS 277 0 (soldS S s v) (wI (wI μ 277 (25 + s) 1) 277 30 (S.mo + v)) := by
  have k : rS 277 0 (St.mk S.wh S.re S.dd S.wn (fun i => (i == s) || S.sd i) S.wk S.mo) (wI μ 277 (25 + s) 1) := by
    refine h.set _ _ ?_ ?_ ?_ ?_ ?_ ?_ ?_
    · intro x hx; rw [if_neg (by omega)]; rfl
    · intro x hx; rw [if_neg (by omega)]; rfl
    · intro x hx; rw [if_neg (by omega)]; rfl
    · intro x hx; rw [if_neg (by omega)]; rfl
    · intro x hx
      show _ = b2i ((x == s) || S.sd x)
      by_cases c : x = s
      · rw [if_pos (by omega), beq_iff_eq.2 c]; rfl
      · rw [if_neg (by omega), beq_eq_false_iff_ne.2 c]; rfl
    · rw [if_neg (by omega)]; rfl
    · rw [if_neg (by omega)]; rfl
  exact k.sMo (S.mo + v)
theorem sp_sell : st_sell Inv := by
  intro μ a1 ⟨A, hA, hc, hr⟩
  have s4 := hA.T.s4
  have no1 : (a1 < 0 ∨ nI A.T.nS ≤ a1) → ∃ (r : Int32) (μ1 μ2 : Mem), fX10_sell a1 μ = some (r, μ1) ∧ fX11_sell a1 μ1 = some (r, μ2) ∧ Inv μ2 := by
    intro h
    refine ⟨-1, μ, μ, ?_, ?_, A, hA, hc, hr⟩
    · unfold fX10_sell; rw [c_isSunday_no hc h s4, bind_s, if_neg (by decide)]
    · unfold fX11_sell; rw [r_isSunday_no (hr.rX hA) h, bind_s, if_neg (by decide)]
  rcases pk_ix a1 (n := A.T.nS) (by omega) with h | h | ⟨s, hs, rfl⟩
  · exact no1 (Or.inl h)
  · exact no1 (Or.inr h)
  have hb4 : inb (nI s) 4 := inbN (by omega) (by omega)
  have hcs : (nI s).toNatClampNeg = s := nI_clamp (by omega)
  have b25 : inb (nI (25 + s)) 31 := inbN (by omega) (by omega)
  have c25 : (nI (25 + s)).toNatClampNeg = 25 + s := nI_clamp (by omega)
  have a25 : (25 : Int32) + nI s = nI (25 + s) := by rw [L_25, nI_add]
  have lt := inB_lt A.S s
  by_cases c : inB A.S s = 0 ∧ A.S.sd s = false
  · obtain ⟨c1, c2⟩ := c
    obtain ⟨m1, k1, k2⟩ := keepC hc hA.k
    obtain ⟨m3, k3⟩ : ∃ m, fX1_ofSunday 3 199 9 (nI s) m1 = some (lawV A.T 3 (vsS A.T A.S s), m) := c_ofSunday (k := 3) (by omega) (by omega) hA.T hA.S k2.T k2.S (by omega) hs
    have f3 := frX1_ofSunday _ _ _ _ _ _ k3
    have k4 := CInv.ag k2 (agC f3 (by decide))
    have sE : m3.1 9 3 = nI (bs A.S.sd 4) := k4.S.sd
    have mE : (wI m3 9 3 (nI (bs A.S.sd 4 ||| 2 ^ s))).1 9 1 = A.S.mo := by rw [wI_i, if_neg (by omega)]; exact k4.S.mo
    have q1 : fX10_sell (nI s) μ = some (sellV A.T A.S s, wI (wI m3 9 3 (nI (bs A.S.sd 4 ||| 2 ^ s))) 9 1 (A.S.mo + sellV A.T A.S s)) := by
      unfold fX10_sell
      rw [c_isSunday_yes hc hs s4, bind_s, if_pos rfl]
      simp only [if_pos hb4, hcs]
      rw [show μ.1 10 s = nI (inB A.S s) from hc.S.wh s (by omega), c1, if_pos nI_0, c_isSold hc.S (by omega), bind_s, c2, if_neg (by decide), k1, bind_s, k3, bind_s]
      simp only [nm_ap]
      rw [sE, nI_shl s (by omega), nI_or, mE]
      rfl
    have fr1 : Fr WX10_sell μ _ := frX10_sell _ μ _ q1
    have r1 := hr.ag (agR fr1 (by decide))
    obtain ⟨m5, e1, e2, e3⟩ := r_cz hA r1
    have sd5 := e2.2.1.sd s (by omega)
    rw [Nat.zero_add, c2] at sd5
    obtain ⟨m6, e4⟩ := r_sellsOf e2.1 e2.2.1 hA.S hs
    have f6 := frX11_sellsOf _ _ _ e4
    have z6 := e2.fr f6 (by decide)
    have r6 := RInv.ag e3 (agR f6 (by decide))
    have mo6 : (wI m6 277 (25 + s) 1).1 277 30 = A.S.mo := by
      rw [wI_i, if_neg (by omega)]
      have := z6.2.1.mo
      rwa [Nat.zero_add] at this
    obtain ⟨m7, e6, e7⟩ := recordsR (RInv.row (RInv.row r6 (25 + s) 1) 30 (A.S.mo + sellV A.T A.S s)) hA.k (z6.2.1.sold (s := s) (by omega) (sellV A.T A.S s))
    have q2 : fX11_sell (nI s) (wI (wI m3 9 3 (nI (bs A.S.sd 4 ||| 2 ^ s))) 9 1 (A.S.mo + sellV A.T A.S s)) = some (sellV A.T A.S s, m7) := by
      unfold fX11_sell
      rw [r_isSunday_yes (r1.rX hA) hs, bind_s, if_pos rfl, e1, bind_s]
      simp only [a25, if_pos b25, c25, nm_ap]
      rw [sd5, if_neg (by decide), r_guestBits e2.1 e2.2.1 hA.S (by omega), bind_s, c1, if_pos nI_0, e4, bind_s, mo6, e6, bind_s]
    have fr2 : Fr WX11_sell _ _ := frX11_sell _ _ _ q2
    refine ⟨_, _, _, q1, q2, _, hA.push (hA.S.sold hs (sellV A.T A.S s)), ?_, e7⟩
    refine CInv.ag ?_ (agC fr2 (by decide))
    refine CInv.now k4 ?_ (k4.S.sold (by omega) _)
    intro a j hp
    refine ⟨?_, rfl⟩
    rw [wI_i, if_neg (by omega), wI_i, if_neg (by omega)]
  · obtain ⟨m2, e1, e2, e3⟩ := r_cz hA hr
    have cp : Ag cP μ m2 := agC (frX11_copies μ _ e1) (by decide)
    have sd5 := e2.2.1.sd s (by omega)
    rw [Nat.zero_add] at sd5
    refine ⟨-1, μ, m2, ?_, ?_, A, hA, hc.ag cp, e3⟩
    · unfold fX10_sell
      rw [c_isSunday_yes hc hs s4, bind_s, if_pos rfl]
      simp only [if_pos hb4, hcs]
      rw [show μ.1 10 s = nI (inB A.S s) from hc.S.wh s (by omega)]
      by_cases c1 : inB A.S s = 0
      · rw [c1, if_pos nI_0, c_isSold hc.S (by omega), bind_s, if_pos (by cases d : A.S.sd s with | true => rfl | false => exact absurd ⟨c1, d⟩ c)]
      · rw [if_neg (nI_ne0 (by omega) (by omega))]
    · unfold fX11_sell
      rw [r_isSunday_yes (hr.rX hA) hs, bind_s, if_pos rfl, e1, bind_s]
      simp only [a25, if_pos b25, c25, nm_ap]
      rw [sd5]
      cases d : A.S.sd s with
      | true => rw [if_pos (by decide)]
      | false =>
        have c1 : ¬ inB A.S s = 0 := fun q => c ⟨q, d⟩
        rw [if_neg (by decide), r_guestBits e2.1 e2.2.1 hA.S (by omega), bind_s, if_neg (nI_ne0 (by omega) (by omega))]
