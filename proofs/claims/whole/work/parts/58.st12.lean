/-! ===== gap, row ===== -/
theorem anyN_ffd {q : Nat → Bool} {n : Nat} : anyN q n = decide (ffd q n 0 < n) := by
  have le := ffd_le q n 0
  cases h : anyN q n with
  | true =>
    obtain ⟨g, g1, g2⟩ := anyN_iff.1 h
    have : ffd q n 0 < n := by
      apply Classical.byContradiction
      intro c
      have := ffd_no q n 0 g (by omega) (by omega)
      rw [g2] at this; cases this
    simp [this]
  | false =>
    have : ¬ ffd q n 0 < n := by
      intro c
      have h2 := ffd_yes q n 0 (by omega)
      have : anyN q n = true := anyN_iff.2 ⟨_, c, h2⟩
      rw [h] at this; cases this
    simp [this]
def fre (T : Txt) (S : St) (s h : Nat) : Bool := decide (whoN T S s h = T.nG)
def gst (f : Nat → Bool) : Nat → Int32 × Int32 × Int32
  | 0 => (0, -2, 0)
  | h + 1 => if f h = true then (if (gst f h).1 < (gst f h).2.2 + 1 then ((gst f h).2.2 + 1, nI h - ((gst f h).2.2 + 1) + 1, (gst f h).2.2 + 1) else ((gst f h).1, (gst f h).2.1, (gst f h).2.2 + 1))
    else (if (gst f h).1 < 0 then (0, nI h - 0 + 1, 0) else ((gst f h).1, (gst f h).2.1, 0))
theorem lu24 : ∀ h, h < 24 → ((nI h).toInt64.toUInt64 &&& Int64.toUInt64 63).toNat % 64 = h := by decide +kernel
theorem lbit {m h : Nat} (hm : m < 2 ^ 40) (hh : h < 24) : (lush (lN m) (nI h) &&& 1 = 0) ↔ m.testBit h = false := by
  rw [lush_lN (by omega) h _ (lu24 h hh), show (1 : Int64) = lN 1 from rfl, lN_and, Nat.and_one_is_mod, Nat.testBit_eq_decide_div_mod_eq]
  rcases (show m / 2 ^ h % 2 = 0 ∨ m / 2 ^ h % 2 = 1 by omega) with q | q
  · rw [q]; simp; rfl
  · rw [q]; simp; decide
theorem whoN_le (T : Txt) (S : St) (s h : Nat) : whoN T S s h ≤ T.nG := by
  have := ffd_le (fun g => (S.wh g == s) && isTh T g h) T.nG 0
  unfold whoN; omega
theorem spB_fre (T : Txt) (S : St) (s h : Nat) : (spB T S s).testBit h = !fre T S s h := by
  unfold spB
  rw [orS_bit]
  have e : (fun g => (S.wh g == s) && (spn T g).testBit h) = fun g => (S.wh g == s) && isTh T g h := by
    funext g; rw [spn_bit]
  rw [e, anyN_ffd]
  unfold fre
  have := whoN_le T S s h
  unfold whoN at this ⊢
  by_cases c : ffd (fun g => (S.wh g == s) && isTh T g h) T.nG 0 < T.nG
  · have : ¬ ffd (fun g => (S.wh g == s) && isTh T g h) T.nG 0 = T.nG := by omega
    simp [c, this]
  · have : ffd (fun g => (S.wh g == s) && isTh T g h) T.nG 0 = T.nG := by omega
    simp [this]
theorem whoV_neg {T : Txt} (hT : okT T) (S : St) (s h : Nat) : whoV T S s h < 0 ↔ fre T S s h = true := by
  have g7 := hT.g7
  have := whoN_le T S s h
  unfold whoV fre
  by_cases c : whoN T S s h < T.nG
  · rw [if_pos c]
    have : ¬ whoN T S s h = T.nG := by omega
    simp only [this, decide_false]
    constructor
    · intro q; exact absurd q (nI_pos (by omega))
    · intro q; cases q
  · rw [if_neg c]
    have : whoN T S s h = T.nG := by omega
    simp only [this, decide_true]
    constructor
    · intro _; trivial
    · intro _; decide
theorem sp_gap : st_gap Inv := by
  intro μ a1 a2 ⟨A, hA, hc, hr⟩
  have s4 := hA.T.s4
  have v1 := hA.lv
  have no1 : (a1 < 0 ∨ nI A.T.nS ≤ a1) → ∃ (r : Int32) (μ2 : Mem), fX10_gap a1 a2 μ = some r ∧ fX11_gap a1 a2 μ = some (r, μ2) ∧ Inv μ2 := by
    intro h
    refine ⟨-1, μ, ?_, ?_, A, hA, hc, hr⟩
    · unfold fX10_gap; rw [c_isSunday_no hc h s4, bind_s, if_neg (by decide)]
    · unfold fX11_gap; rw [r_isSunday_no (hr.rX hA) h, bind_s, if_neg (by decide)]
  rcases pk_ix a1 (n := A.T.nS) (by omega) with h | h | ⟨s, hs, rfl⟩
  · exact no1 (Or.inl h)
  · exact no1 (Or.inr h)
  have hb4 : inb (nI s) 4 := inbN (by omega) (by omega)
  have hcs : (nI s).toNatClampNeg = s := nI_clamp (by omega)
  have b4 : inb (nI (4 * A.lv + s)) 8 := inbN (by omega) (by omega)
  have c4 : (nI (4 * A.lv + s)).toNatClampNeg = 4 * A.lv + s := nI_clamp (by omega)
  have ss := hA.T.su s hs
  have los : μ.1 200 s = nI (A.T.lo s) := hc.T.lo s hs
  by_cases w : a2 = 0 ∨ a2 = 1
  · obtain ⟨m, e1, e2, e3, _⟩ := r_copies hA hr
    have hx := e3.rX hA
    refine qpm hA hc hr (if a2 = 0 then (gst (fre A.T A.S s) (A.T.lo s)).1 else (gst (fre A.T A.S s) (A.T.lo s)).2.1) ?_ ⟨m, ?_⟩ (frX11_gap _ _ μ) (by decide) (by decide)
    · unfold fX10_gap
      rw [c_isSunday_yes hc hs s4, bind_s, if_pos rfl, c_two, bind_s, if_pos (by simpa using w)]
      simp only [if_pos hb4, hcs]
      rw [show μ.1 10 s = nI (inB A.S s) from hc.S.wh s (by omega), c_spanIn hc.T hA.T, bind_s]
      have h1 := lupF (L := fun n v (a : Int32 × Int32 × Int32) => fX10_gap_48 (nI s) a2 (lN (spB A.T A.S s)) μ (fun y6 y7 => if a2 = 0 then some y6 else some y7) n a.1 a.2.1 a.2.2 v) (K := fun a => if a2 = 0 then some a.1 else some a.2.1) (a := ((0 : Int32), (-2 : Int32), (0 : Int32))) (A.T.lo s) (fun i a => a = gst (fre A.T A.S s) i) (fun i _ => gst (fre A.T A.S s) (i + 1)) (by omega) rfl
        (by
          intro n i a hi ha
          subst ha
          show fX10_gap_48 _ _ _ _ _ _ _ _ _ _ = _
          rw [fX10_gap_48]
          simp only [if_pos hb4, hcs]
          rw [los, if_pos (nI_lt hi (by omega)), nI_1, gst]
          cases f : fre A.T A.S s i with
          | true =>
            rw [if_pos ((lbit (spB_lt hA.T s) (by omega)).2 (by rw [spB_fre, f]; rfl)), if_pos rfl, nm_ap]
            by_cases c : (gst (fre A.T A.S s) i).1 < (gst (fre A.T A.S s) i).2.2 + 1
            · rw [if_pos c, if_pos c]
            · rw [if_neg c, if_neg c]
          | false =>
            rw [if_neg (fun q => by have := (lbit (spB_lt hA.T s) (by omega)).1 q; rw [spB_fre, f] at this; cases this), if_neg (show ¬ false = true by decide), nm_ap]
            by_cases c : (gst (fre A.T A.S s) i).1 < 0
            · rw [if_pos c, if_pos c]
            · rw [if_neg c, if_neg c])
        (by intro i a hi ha; rfl)
        (by
          intro n a ha
          show fX10_gap_48 _ _ _ _ _ _ _ _ _ _ = _
          rw [fX10_gap_48]
          simp only [if_pos hb4, hcs]
          rw [los, if_neg (nI_nlt (by omega) (by omega))])
      rw [h1.2] at h1
      refine Eq.trans h1.1 ?_
      split <;> rfl
    · unfold fX11_gap
      rw [r_isSunday_yes (hr.rX hA) hs, bind_s, if_pos rfl, r_two, bind_s, if_pos (by simpa using w), e1, bind_s]
      have h1 := lupF (L := fun n v (a : Int32 × Int32 × Int32) => fX11_gap_35 (nI s) a2 m (fun y7 y8 => if a2 = 0 then some (y8, m) else some (y7, m)) n a.2.1 a.1 a.2.2 v) (K := fun a => if a2 = 0 then some (a.1, m) else some (a.2.1, m)) (a := ((0 : Int32), (-2 : Int32), (0 : Int32))) (A.T.lo s) (fun i a => a = gst (fre A.T A.S s) i) (fun i _ => gst (fre A.T A.S s) (i + 1)) (by omega) rfl
        (by
          intro n i a hi ha
          subst ha
          show fX11_gap_35 _ _ _ _ _ _ _ _ _ = _
          rw [fX11_gap_35, hx.1, ix4]
          simp only [if_pos b4, c4]
          rw [hx.2.2.2.lo s hs, if_pos (nI_lt hi (by omega)), nI_1, gst, r_whoIsAt hx e2 hA.S (by omega) (by omega), bind_s]
          cases f : fre A.T A.S s i with
          | true =>
            rw [if_pos ((whoV_neg hA.T A.S s i).2 f), if_pos rfl, nm_ap]
            by_cases c : (gst (fre A.T A.S s) i).1 < (gst (fre A.T A.S s) i).2.2 + 1
            · rw [if_pos c, if_pos c]
            · rw [if_neg c, if_neg c]
          | false =>
            rw [if_neg (fun q => by have := (whoV_neg hA.T A.S s i).1 q; rw [f] at this; cases this), if_neg (show ¬ false = true by decide), nm_ap]
            by_cases c : (gst (fre A.T A.S s) i).1 < 0
            · rw [if_pos c, if_pos c]
            · rw [if_neg c, if_neg c])
        (by intro i a hi ha; rfl)
        (by
          intro n a ha
          show fX11_gap_35 _ _ _ _ _ _ _ _ _ = _
          rw [fX11_gap_35, hx.1, ix4]
          simp only [if_pos b4, c4]
          rw [hx.2.2.2.lo s hs, if_neg (nI_nlt (by omega) (by omega))])
      rw [h1.2] at h1
      refine Eq.trans h1.1 ?_
      split <;> rfl
  · refine ⟨-1, μ, ?_, ?_, A, hA, hc, hr⟩
    · unfold fX10_gap
      rw [c_isSunday_yes hc hs s4, bind_s, if_pos rfl, c_two, bind_s, if_neg (by simpa using w)]
    · unfold fX11_gap
      rw [r_isSunday_yes (hr.rX hA) hs, bind_s, if_pos rfl, r_two, bind_s, if_neg (by simpa using w)]
/-! row -/
def cnt (T : Txt) (S : St) (s h : Nat) : Nat := smn (fun o => if S.wh o = s ∧ T.hr o < h then 1 else 0) T.nG
theorem smn_le2 {v w : Nat → Nat} : ∀ {n : Nat}, (∀ i, i < n → v i ≤ w i) → smn v n ≤ smn w n
  | 0, _ => Nat.le_refl _
  | n + 1, h => by rw [smn, smn]; have := smn_le2 (fun i hi => h i (by omega)) (n := n) (v := v) (w := w); have := h n (by omega); omega
theorem smn_lt2 {v w : Nat → Nat} {g : Nat} : ∀ {n : Nat}, (∀ i, i < n → v i ≤ w i) → g < n → v g < w g → smn v n < smn w n
  | 0, _, h, _ => by omega
  | n + 1, h, hg, hl => by
    rw [smn, smn]
    by_cases c : g = n
    · subst c
      have := smn_le2 (fun i hi => h i (by omega)) (n := g) (v := v) (w := w)
      omega
    · have := smn_lt2 (fun i hi => h i (by omega)) (n := n) (v := v) (w := w) (g := g) (by omega) hl
      have := h n (by omega)
      omega
theorem cnt_lt {T : Txt} {S : St} {s g h h' : Nat} (hg : g < T.nG) (hs : S.wh g = s) (h1 : h ≤ T.hr g) (h2 : T.hr g < h') : cnt T S s h < cnt T S s h' := by
  unfold cnt
  refine smn_lt2 (g := g) ?_ hg ?_
  · intro i _
    by_cases c : S.wh i = s ∧ T.hr i < h
    · rw [if_pos c, if_pos ⟨c.1, by omega⟩]; exact Nat.le_refl _
    · rw [if_neg c]; exact Nat.zero_le _
  · rw [if_neg (by omega), if_pos ⟨hs, h2⟩]; exact Nat.one_pos
theorem cnt_le (T : Txt) (S : St) (s h : Nat) : cnt T S s h ≤ T.nG := by
  unfold cnt
  apply smn_le
  intro i
  split <;> omega
theorem cnt_same {T : Txt} {S : St} {s h : Nat} (k : ∀ g, g < T.nG → S.wh g = s → T.hr g ≠ h) : cnt T S s (h + 1) = cnt T S s h := by
  unfold cnt
  apply smn_ext
  intro i hi
  by_cases c : S.wh i = s ∧ T.hr i < h
  · rw [if_pos c, if_pos ⟨c.1, by omega⟩]
  · rw [if_neg c, if_neg]
    rintro ⟨c1, c2⟩
    have := k i hi c1
    exact c ⟨c1, by omega⟩
theorem smn_one {v w : Nat → Nat} {g : Nat} : ∀ {n : Nat}, g < n → w g = v g + 1 → (∀ i, i < n → i ≠ g → w i = v i) → smn w n = smn v n + 1
  | 0, h, _, _ => by omega
  | n + 1, hg, h1, h2 => by
    rw [smn, smn]
    by_cases c : g = n
    · subst c
      rw [smn_ext (fun i hi => h2 i (by omega) (by omega)), h1]; omega
    · rw [smn_one (v := v) (g := g) (by omega) h1 (fun i hi hn => h2 i (by omega) hn), h2 n (by omega) (by omega)]; omega
theorem th_self {T : Txt} (hT : okT T) {g : Nat} (hg : g < T.nG) : isTh T g (T.hr g) = true := by
  have := hT.gu g hg
  unfold isTh; simp; omega
theorem in_uni {T : Txt} {S : St} (hT : okT T) (ok : okS T S) {s g o h : Nat} (hs : s < 9) (h1 : S.wh g = s) (h2 : S.wh o = s) (t1 : isTh T g h = true) (t2 : isTh T o h = true) : g = o := by
  apply Classical.byContradiction
  intro c
  exact clash_dis (ok.cl g o (by omega) (by omega)) c t1 t2
theorem cnt_one {T : Txt} {S : St} (hT : okT T) (ok : okS T S) {s g : Nat} (hs : s < 9) (hg : g < T.nG) (h1 : S.wh g = s) : cnt T S s (T.hr g + 1) = cnt T S s (T.hr g) + 1 := by
  unfold cnt
  refine smn_one (g := g) hg ?_ ?_
  · rw [if_pos ⟨h1, by omega⟩, if_neg (by omega)]
  · intro i hi hn
    by_cases c : S.wh i = s ∧ T.hr i < T.hr g
    · rw [if_pos c, if_pos ⟨c.1, by omega⟩]
    · rw [if_neg c, if_neg]
      rintro ⟨c1, c2⟩
      have e : T.hr i = T.hr g := by
        apply Classical.byContradiction
        intro q
        exact c ⟨c1, by omega⟩
      exact hn (in_uni hT ok hs c1 h1 (h := T.hr g) (by rw [← e]; exact th_self hT hi) (th_self hT hg))
theorem whoN_at {T : Txt} {S : St} (hT : okT T) (ok : okS T S) {s g : Nat} (hs : s < 9) (hg : g < T.nG) (h1 : S.wh g = s) : whoN T S s (T.hr g) = g := by
  unfold whoN
  apply ffd_eq hg
  · rw [th_self hT hg]; simpa using h1
  · intro i hi
    cases e : ((S.wh i == s) && isTh T i (T.hr g)) with
    | false => rfl
    | true =>
      rw [Bool.and_eq_true] at e
      have := in_uni hT ok hs (show S.wh i = s by simpa using e.1) h1 e.2 (th_self hT hg)
      omega
theorem whoN_in {T : Txt} {S : St} {s h : Nat} (k : whoN T S s h < T.nG) : S.wh (whoN T S s h) = s ∧ isTh T (whoN T S s h) h = true := by
  unfold whoN at k ⊢
  have := ffd_yes (fun g => (S.wh g == s) && isTh T g h) T.nG 0 (by omega)
  rw [Bool.and_eq_true] at this
  exact ⟨by simpa using this.1, this.2⟩
def bgn (T : Txt) (S : St) (s h : Nat) : Bool := decide (whoN T S s h < T.nG) && decide (T.hr (whoN T S s h) = h)
theorem c_earlier {A : Abs} {μ : Mem} (hA : okA A) (hc : CInv A μ) {g s : Nat} (hg : g < A.T.nG) (hs : s < 4) : fX10_earlierOnes (nI g) (nI s) μ = some (nI (cnt A.T A.S s (A.T.hr g))) := by
  have g7 := hA.T.g7
  have bg : inb (nI g) 7 := inbN (by omega) (by omega)
  have cg : (nI g).toNatClampNeg = g := nI_clamp (by omega)
  have ug := hA.T.gu g hg
  have hrg : μ.1 202 g = nI (A.T.hr g) := hc.T.hr g hg
  unfold fX10_earlierOnes
  rw [lsum (L := fun n a i => fX10_earlierOnes_5 (nI g) (nI s) μ (fun y => some y) n a i) (K := fun y => some y) A.T.nG (fun o => if A.S.wh o = s ∧ A.T.hr o < A.T.hr g then 1 else 0) (by omega)
    (by
      intro n i a hi
      have bi : inb (nI i) 7 := inbN (by omega) (by omega)
      have ci : (nI i).toNatClampNeg = i := nI_clamp (by omega)
      have ui := hA.T.gu i hi
      have hri : μ.1 202 i = nI (A.T.hr i) := hc.T.hr i hi
      show fX10_earlierOnes_5 _ _ _ _ _ _ _ = _
      rw [fX10_earlierOnes_5, hc.T.nG, if_pos (nI_lt hi (by omega)), c_isIn hc.S (by omega) hs, bind_s]
      simp only [if_pos bi, ci, if_pos bg, cg]
      rw [hri, hrg, nI_1]
      by_cases c : A.S.wh i = s
      · rw [if_pos (by simpa using c)]
        by_cases d : A.T.hr i < A.T.hr g
        · rw [if_pos (nI_lt d (by omega)), if_pos ⟨c, d⟩]
        · rw [if_neg (nI_nlt (by omega) (by omega)), if_neg (fun q => d q.2), ad0]
      · rw [if_neg (by simpa using c), if_neg (fun q => c q.1), ad0])
    (by
      intro n a
      show fX10_earlierOnes_5 _ _ _ _ _ _ _ = _
      rw [fX10_earlierOnes_5, hc.T.nG, if_neg (nI_nlt (by omega) (by omega))])]
  unfold cnt
  rw [smv_nI (w := fun o => if A.S.wh o = s ∧ A.T.hr o < A.T.hr g then 1 else 0) (fun i hi => by split <;> rfl)]
theorem sp_row : st_row Inv := by
  intro μ a1 a2 ⟨A, hA, hc, hr⟩
  have s4 := hA.T.s4
  have g7 := hA.T.g7
  have v1 := hA.lv
  have no1 : (a1 < 0 ∨ nI A.T.nS ≤ a1) → ∃ (r : Int32) (μ2 : Mem), fX10_row a1 a2 μ = some r ∧ fX11_row a1 a2 μ = some (r, μ2) ∧ Inv μ2 := by
    intro h
    refine ⟨-1, μ, ?_, ?_, A, hA, hc, hr⟩
    · unfold fX10_row; rw [c_isSunday_no hc h s4, bind_s, if_neg (by decide)]
    · unfold fX11_row; rw [r_isSunday_no (hr.rX hA) h, bind_s, if_neg (by decide)]
  rcases pk_ix a1 (n := A.T.nS) (by omega) with h | h | ⟨s, hs, rfl⟩
  · exact no1 (Or.inl h)
  · exact no1 (Or.inr h)
  have comp : fX10_row (nI s) a2 μ = some (if ffd (fun g => (A.S.wh g == s) && decide (nI (cnt A.T A.S s (A.T.hr g)) = a2)) A.T.nG 0 < A.T.nG then nI (ffd (fun g => (A.S.wh g == s) && decide (nI (cnt A.T A.S s (A.T.hr g)) = a2)) A.T.nG 0) else -1) := by
    unfold fX10_row
    rw [c_isSunday_yes hc hs s4, bind_s, if_pos rfl]
    have step : ∀ n i, i < A.T.nG → fX10_row_12 (nI s) a2 μ (fun _ => some (-1)) (n + 1) (nI i) = if ((A.S.wh i == s) && decide (nI (cnt A.T A.S s (A.T.hr i)) = a2)) = true then some (nI i) else fX10_row_12 (nI s) a2 μ (fun _ => some (-1)) n (nI (i + 1)) := by
      intro n i hi
      rw [fX10_row_12, hc.T.nG, if_pos (nI_lt hi (by omega)), c_isIn hc.S (by omega) (by omega), bind_s, c_earlier hA hc hi (by omega), bind_s, nI_1]
      cases (A.S.wh i == s) with
      | true =>
        rw [if_pos rfl]
        by_cases d : nI (cnt A.T A.S s (A.T.hr i)) = a2
        · rw [if_pos d, if_pos (by simp [d])]
        · rw [if_neg d, if_neg (by simp [d])]
      | false => rw [if_neg (by decide), if_neg (by simp)]
    rw [lfind (L := fun n i => fX10_row_12 (nI s) a2 μ (fun _ => some (-1)) n i) (X := some (-1)) A.T.nG (fun g => (A.S.wh g == s) && decide (nI (cnt A.T A.S s (A.T.hr g)) = a2)) (fun g => some (nI g)) (by omega)
      (by intro n i hi hp; show fX10_row_12 _ _ _ _ _ _ = _; rw [step n i hi, if_pos hp])
      (by intro n i hi hp; show fX10_row_12 _ _ _ _ _ _ = _; rw [step n i hi, if_neg (by rw [hp]; decide)])
      (by intro n; show fX10_row_12 _ _ _ _ _ _ = _; rw [fX10_row_12, hc.T.nG, if_neg (nI_nlt (by omega) (by omega))])]
    split <;> rfl
  by_cases neg : a2 < 0
  · refine ⟨-1, μ, ?_, ?_, A, hA, hc, hr⟩
    · rw [comp, if_neg]
      intro q
      have := ffd_yes (fun g => (A.S.wh g == s) && decide (nI (cnt A.T A.S s (A.T.hr g)) = a2)) A.T.nG 0 (by omega)
      rw [Bool.and_eq_true] at this
      have h2 := of_decide_eq_true this.2
      have c7 := cnt_le A.T A.S s (A.T.hr (ffd (fun g => (A.S.wh g == s) && decide (nI (cnt A.T A.S s (A.T.hr g)) = a2)) A.T.nG 0))
      rw [← h2] at neg
      exact nI_pos (by omega) neg
    · unfold fX11_row
      rw [r_isSunday_yes (hr.rX hA) hs, bind_s, if_pos rfl, if_pos neg]
  · obtain ⟨m, e1, e2, e3, _⟩ := r_copies hA hr
    have hx := e3.rX hA
    have ref : fX11_row (nI s) a2 μ = some (if ffd (fun h => bgn A.T A.S s h && decide (nI (cnt A.T A.S s h) = a2)) 24 0 < 24 then nI (whoN A.T A.S s (ffd (fun h => bgn A.T A.S s h && decide (nI (cnt A.T A.S s h) = a2)) 24 0)) else -1, m) := by
      unfold fX11_row
      rw [r_isSunday_yes (hr.rX hA) hs, bind_s, if_pos rfl, if_neg neg, e1, bind_s]
      have step : ∀ n i, i < 24 → fX11_row_23 (nI s) a2 m (fun _ => some (-1, m)) (n + 1) (nI (cnt A.T A.S s i)) (nI i) = if (bgn A.T A.S s i && decide (nI (cnt A.T A.S s i) = a2)) = true then some (nI (whoN A.T A.S s i), m) else fX11_row_23 (nI s) a2 m (fun _ => some (-1, m)) n (nI (cnt A.T A.S s (i + 1))) (nI (i + 1)) := by
        intro n i hi
        rw [fX11_row_23, if_pos (c_lt L_24 hi (by omega)), r_whoIsAt hx e2 hA.S (by omega) (by omega), bind_s, nI_1, nI_1]
        have wl := whoN_le A.T A.S s i
        by_cases f : whoN A.T A.S s i < A.T.nG
        · have nn : ¬ whoV A.T A.S s i < 0 := fun q => by have := (whoV_neg hA.T A.S s i).1 q; unfold fre at this; simp at this; omega
          have wv : whoV A.T A.S s i = nI (whoN A.T A.S s i) := by unfold whoV; rw [if_pos f]
          have wi := whoN_in f
          have uu := hA.T.gu _ f
          rw [if_neg nn, wv, r_fromAt hx f, bind_s]
          by_cases b : A.T.hr (whoN A.T A.S s i) = i
          · rw [if_pos (by rw [b])]
            have c1 : cnt A.T A.S s (i + 1) = cnt A.T A.S s i + 1 := by
              have := cnt_one hA.T hA.S (by omega) f wi.1
              rwa [b] at this
            by_cases d : nI (cnt A.T A.S s i) = a2
            · rw [if_pos d, if_pos (by unfold bgn; simp [f, b, d])]
            · rw [if_neg d, if_neg (by simp [d]), c1]
          · have c0 : cnt A.T A.S s (i + 1) = cnt A.T A.S s i := cnt_same (fun g hg hw q => by
              have := whoN_at hA.T hA.S (by omega) hg hw
              rw [q] at this
              rw [this] at b
              exact b q)
            rw [if_neg (fun q => b ((nI_eq (by omega) (by omega)).1 q)), if_neg (by unfold bgn; simp [b]), c0]
        · have c0 : cnt A.T A.S s (i + 1) = cnt A.T A.S s i := cnt_same (fun g hg hw q => by
            have := whoN_at hA.T hA.S (by omega) hg hw
            rw [q] at this
            omega)
          rw [if_pos ((whoV_neg hA.T A.S s i).2 (by unfold fre; simp; omega)), if_neg (by unfold bgn; simp [f]), c0]
      have z : cnt A.T A.S s 0 = 0 := by
        unfold cnt
        rw [smn_ext (w := fun _ => 0) (fun i hi => by rw [if_neg (by omega)]), smn_zero]
      have key := lfind (L := fun n i => fX11_row_23 (nI s) a2 m (fun _ => some (-1, m)) n (nI (cnt A.T A.S s i.toNatClampNeg)) i) (X := some (-1, m)) 24 (fun h => bgn A.T A.S s h && decide (nI (cnt A.T A.S s h) = a2)) (fun h => some (nI (whoN A.T A.S s h), m)) (by omega)
        (by intro n i hi hp; show fX11_row_23 _ _ _ _ _ _ _ = _; rw [nI_clamp (by omega), step n i hi, if_pos hp])
        (by intro n i hi hp; show fX11_row_23 _ _ _ _ _ _ _ = fX11_row_23 _ _ _ _ _ _ _; rw [nI_clamp (by omega), nI_clamp (by omega), step n i hi, if_neg (by rw [hp]; decide)])
        (by intro n; show fX11_row_23 _ _ _ _ _ _ _ = _; rw [fX11_row_23, if_neg (c_nlt L_24 (by omega) (by omega))])
      have e0 : nI (cnt A.T A.S s (0 : Int32).toNatClampNeg) = 0 := by rw [show (0 : Int32).toNatClampNeg = 0 by decide, z]; rfl
      rw [e0] at key
      refine Eq.trans key ?_
      split <;> rfl
    have same : (if ffd (fun h => bgn A.T A.S s h && decide (nI (cnt A.T A.S s h) = a2)) 24 0 < 24 then nI (whoN A.T A.S s (ffd (fun h => bgn A.T A.S s h && decide (nI (cnt A.T A.S s h) = a2)) 24 0)) else -1) = (if ffd (fun g => (A.S.wh g == s) && decide (nI (cnt A.T A.S s (A.T.hr g)) = a2)) A.T.nG 0 < A.T.nG then nI (ffd (fun g => (A.S.wh g == s) && decide (nI (cnt A.T A.S s (A.T.hr g)) = a2)) A.T.nG 0) else -1) := by
      have uni : ∀ g o, g < A.T.nG → o < A.T.nG → A.S.wh g = s → A.S.wh o = s → nI (cnt A.T A.S s (A.T.hr g)) = a2 → nI (cnt A.T A.S s (A.T.hr o)) = a2 → g = o := by
        intro g o hg ho wg wo cg co
        have k1 := cnt_le A.T A.S s (A.T.hr g)
        have k2 := cnt_le A.T A.S s (A.T.hr o)
        have ce : cnt A.T A.S s (A.T.hr g) = cnt A.T A.S s (A.T.hr o) := (nI_eq (by omega) (by omega)).1 (cg.trans co.symm)
        have he : A.T.hr g = A.T.hr o := by
          rcases Nat.lt_trichotomy (A.T.hr g) (A.T.hr o) with q | q | q
          · have := cnt_lt (h := A.T.hr g) hg wg (Nat.le_refl _) q; omega
          · exact q
          · have := cnt_lt (h := A.T.hr o) ho wo (Nat.le_refl _) q; omega
        exact in_uni hA.T hA.S (by omega) wg wo (h := A.T.hr g) (th_self hA.T hg) (by rw [he]; exact th_self hA.T ho)
      by_cases ex : ∃ g, g < A.T.nG ∧ A.S.wh g = s ∧ nI (cnt A.T A.S s (A.T.hr g)) = a2
      · obtain ⟨g, hg, wg, cg⟩ := ex
        have ug := hA.T.gu g hg
        have f1 : ffd (fun g => (A.S.wh g == s) && decide (nI (cnt A.T A.S s (A.T.hr g)) = a2)) A.T.nG 0 = g := by
          apply ffd_eq hg
          · simp [wg, cg]
          · intro i hi
            cases q : ((A.S.wh i == s) && decide (nI (cnt A.T A.S s (A.T.hr i)) = a2)) with
            | false => rfl
            | true =>
              rw [Bool.and_eq_true] at q
              have := uni i g (by omega) hg (by simpa using q.1) wg (of_decide_eq_true q.2) cg
              omega
        have f2 : ffd (fun h => bgn A.T A.S s h && decide (nI (cnt A.T A.S s h) = a2)) 24 0 = A.T.hr g := by
          apply ffd_eq (by omega)
          · unfold bgn
            rw [whoN_at hA.T hA.S (by omega) hg wg]; simp [hg, cg]
          · intro i hi
            cases q : (bgn A.T A.S s i && decide (nI (cnt A.T A.S s i) = a2)) with
            | false => rfl
            | true =>
              rw [Bool.and_eq_true] at q
              have q1 := q.1
              unfold bgn at q1
              rw [Bool.and_eq_true] at q1
              have w1 := of_decide_eq_true q1.1
              have w2 := of_decide_eq_true q1.2
              have := uni _ g w1 hg (whoN_in w1).1 wg (by rw [w2]; exact of_decide_eq_true q.2) cg
              rw [this] at w2
              omega
        rw [f1, f2, if_pos (by omega), if_pos hg, whoN_at hA.T hA.S (by omega) hg wg]
      · have f1 : ffd (fun g => (A.S.wh g == s) && decide (nI (cnt A.T A.S s (A.T.hr g)) = a2)) A.T.nG 0 = A.T.nG := by
          apply ffd_none
          intro i hi
          cases q : ((A.S.wh i == s) && decide (nI (cnt A.T A.S s (A.T.hr i)) = a2)) with
          | false => rfl
          | true =>
            rw [Bool.and_eq_true] at q
            exact absurd ⟨i, hi, by simpa using q.1, of_decide_eq_true q.2⟩ ex
        have f2 : ffd (fun h => bgn A.T A.S s h && decide (nI (cnt A.T A.S s h) = a2)) 24 0 = 24 := by
          apply ffd_none
          intro i hi
          cases q : (bgn A.T A.S s i && decide (nI (cnt A.T A.S s i) = a2)) with
          | false => rfl
          | true =>
            rw [Bool.and_eq_true] at q
            have q1 := q.1
            unfold bgn at q1
            rw [Bool.and_eq_true] at q1
            have w1 := of_decide_eq_true q1.1
            have w2 := of_decide_eq_true q1.2
            exact absurd ⟨_, w1, (whoN_in w1).1, by rw [w2]; exact of_decide_eq_true q.2⟩ ex
        rw [f1, f2, if_neg (by omega), if_neg (by omega)]
    exact qpm hA hc hr _ comp ⟨m, by rw [ref, same]⟩ (frX11_row _ _ μ) (by decide) (by decide)
