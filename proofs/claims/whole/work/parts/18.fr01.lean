def WX2_startLaw (t0 : Nat) : List (Nat × Nat × Option Nat) := [((t0 + 3), 1, none)]
set_option maxRecDepth 100000 in
theorem frX2_startLaw  (t0 : Nat) (a1 : Int32) (μ : Mem) : FrO (WX2_startLaw t0) μ id (fX2_startLaw t0 a1 μ) := by
  suffices hh : ∀ μ0 : Mem, Fr (WX2_startLaw t0) μ0 μ → FrO (WX2_startLaw t0) μ0 id (fX2_startLaw t0 a1 μ) from hh μ Fr.rfl
  intro μ0 hμ
  unfold fX2_startLaw
  refine fr_g (fr_wI hμ (by first | exact inw_n (by decide) | exact inw_s (by decide) | (simp [WX2_startLaw, inW]; done) | (simp [WX2_startLaw, inW]; omega)) fun μ1 hμ1 => ?_)
  exact fr_ret hμ1
def WX2_add (t0 : Nat) : List (Nat × Nat × Option Nat) := [((t0 + 1), 1, none), ((t0 + 2), 1, none), (t0, 1, some 3)]
set_option maxRecDepth 100000 in
theorem frX2_add  (t0 : Nat) (a1 : Int32) (a2 : Int32) (μ : Mem) : FrO (WX2_add t0) μ Prod.snd (fX2_add t0 a1 a2 μ) := by
  suffices hh : ∀ μ0 : Mem, Fr (WX2_add t0) μ0 μ → FrO (WX2_add t0) μ0 Prod.snd (fX2_add t0 a1 a2 μ) from hh μ Fr.rfl
  intro μ0 hμ
  unfold fX2_add
  refine fr_if ?_ ?_
  · refine fr_g (fr_wI hμ (by first | exact inw_n (by decide) | exact inw_s (by decide) | (simp [WX2_add, inW]; done) | (simp [WX2_add, inW]; omega)) fun μ1 hμ1 => ?_)
    refine fr_g (fr_wI hμ1 (by first | exact inw_n (by decide) | exact inw_s (by decide) | (simp [WX2_add, inW]; done) | (simp [WX2_add, inW]; omega)) fun μ2 hμ2 => ?_)
    refine fr_wI hμ2 (by first | exact inw_n (by decide) | exact inw_s (by decide) | (simp [WX2_add, inW]; done) | (simp [WX2_add, inW]; omega)) fun μ3 hμ3 => ?_
    exact fr_ret hμ3
  · exact fr_ret hμ
def WX2_addShortLaw (t0 : Nat) : List (Nat × Nat × Option Nat) := [((t0 + 3), 1, none), ((t0 + 1), 1, none), ((t0 + 2), 1, none), (t0, 1, some 3)]
set_option maxRecDepth 100000 in
theorem frX2_addShortLaw  (t0 : Nat) (a1 : Int32) (a2 : Int32) (a3 : Int32) (μ : Mem) : FrO (WX2_addShortLaw t0) μ id (fX2_addShortLaw t0 a1 a2 a3 μ) := by
  suffices hh : ∀ μ0 : Mem, Fr (WX2_addShortLaw t0) μ0 μ → FrO (WX2_addShortLaw t0) μ0 id (fX2_addShortLaw t0 a1 a2 a3 μ) from hh μ Fr.rfl
  intro μ0 hμ
  unfold fX2_addShortLaw
  refine fr_bv (frX2_startLaw t0 a1 μ) hμ (by first | exact sub_mem (by decide) | (refine sub_mem ?_; simp [WX2_startLaw, WX2_addShortLaw]; done) | (intro a9 j9 h9; simp [WX2_startLaw, inW] at h9; simp [WX2_addShortLaw, inW]; omega)) fun q1 hq1 => ?_
  refine fr_bm (frX2_add t0 a2 a3 q1) hq1 (by first | exact sub_mem (by decide) | (refine sub_mem ?_; simp [WX2_add, WX2_addShortLaw]; done) | (intro a9 j9 h9; simp [WX2_add, inW] at h9; simp [WX2_addShortLaw, inW]; omega)) fun q2 hq2 => ?_
  refine fr_bm (frX2_add t0 0 0 q2.2) hq2 (by first | exact sub_mem (by decide) | (refine sub_mem ?_; simp [WX2_add, WX2_addShortLaw]; done) | (intro a9 j9 h9; simp [WX2_add, inW] at h9; simp [WX2_addShortLaw, inW]; omega)) fun q3 hq3 => ?_
  exact fr_ret hq3
def WX2_begin (t0 : Nat) : List (Nat × Nat × Option Nat) := [(t0, 1, some 3), ((t0 + 3), 1, none), ((t0 + 1), 1, none), ((t0 + 2), 1, none)]
set_option maxRecDepth 100000 in
theorem frX2_begin  (t0 : Nat) (μ : Mem) : FrO (WX2_begin t0) μ id (fX2_begin t0 μ) := by
  suffices hh : ∀ μ0 : Mem, Fr (WX2_begin t0) μ0 μ → FrO (WX2_begin t0) μ0 id (fX2_begin t0 μ) from hh μ Fr.rfl
  intro μ0 hμ
  unfold fX2_begin
  refine fr_wI hμ (by first | exact inw_n (by decide) | exact inw_s (by decide) | (simp [WX2_begin, inW]; done) | (simp [WX2_begin, inW]; omega)) fun μ1 hμ1 => ?_
  refine fr_bv (frX2_addShortLaw t0 0 13 0 μ1) hμ1 (by first | exact sub_mem (by decide) | (refine sub_mem ?_; simp [WX2_addShortLaw, WX2_begin]; done) | (intro a9 j9 h9; simp [WX2_addShortLaw, inW] at h9; simp [WX2_begin, inW]; omega)) fun q2 hq2 => ?_
  refine fr_bv (frX2_addShortLaw t0 1 13 1 q2) hq2 (by first | exact sub_mem (by decide) | (refine sub_mem ?_; simp [WX2_addShortLaw, WX2_begin]; done) | (intro a9 j9 h9; simp [WX2_addShortLaw, inW] at h9; simp [WX2_begin, inW]; omega)) fun q3 hq3 => ?_
  refine fr_bv (frX2_addShortLaw t0 2 3 1 q3) hq3 (by first | exact sub_mem (by decide) | (refine sub_mem ?_; simp [WX2_addShortLaw, WX2_begin]; done) | (intro a9 j9 h9; simp [WX2_addShortLaw, inW] at h9; simp [WX2_begin, inW]; omega)) fun q4 hq4 => ?_
  refine fr_bv (frX2_addShortLaw t0 3 13 5 q4) hq4 (by first | exact sub_mem (by decide) | (refine sub_mem ?_; simp [WX2_addShortLaw, WX2_begin]; done) | (intro a9 j9 h9; simp [WX2_addShortLaw, inW] at h9; simp [WX2_begin, inW]; omega)) fun q5 hq5 => ?_
  exact fr_ret hq5
def WX7_begin (t0 : Nat) : List (Nat × Nat × Option Nat) := [(t0, 1, some 0), (t0, 1, some 3), (t0, 1, some 7), (t0, 1, some 8), (t0, 1, some 9), ((t0 + 6), 1, some 3), (((t0 + 6) + 3), 1, none), (((t0 + 6) + 1), 1, none), (((t0 + 6) + 2), 1, none)]
set_option maxRecDepth 100000 in
theorem frX7_begin  (t0 : Nat) (μ : Mem) : FrO (WX7_begin t0) μ id (fX7_begin t0 μ) := by
  suffices hh : ∀ μ0 : Mem, Fr (WX7_begin t0) μ0 μ → FrO (WX7_begin t0) μ0 id (fX7_begin t0 μ) from hh μ Fr.rfl
  intro μ0 hμ
  unfold fX7_begin
  refine fr_wI hμ (by first | exact inw_n (by decide) | exact inw_s (by decide) | (simp [WX7_begin, inW]; done) | (simp [WX7_begin, inW]; omega)) fun μ1 hμ1 => ?_
  refine fr_wI hμ1 (by first | exact inw_n (by decide) | exact inw_s (by decide) | (simp [WX7_begin, inW]; done) | (simp [WX7_begin, inW]; omega)) fun μ2 hμ2 => ?_
  refine fr_wI hμ2 (by first | exact inw_n (by decide) | exact inw_s (by decide) | (simp [WX7_begin, inW]; done) | (simp [WX7_begin, inW]; omega)) fun μ3 hμ3 => ?_
  refine fr_wI hμ3 (by first | exact inw_n (by decide) | exact inw_s (by decide) | (simp [WX7_begin, inW]; done) | (simp [WX7_begin, inW]; omega)) fun μ4 hμ4 => ?_
  refine fr_wI hμ4 (by first | exact inw_n (by decide) | exact inw_s (by decide) | (simp [WX7_begin, inW]; done) | (simp [WX7_begin, inW]; omega)) fun μ5 hμ5 => ?_
  refine fr_bv (frX2_begin (t0 + 6) μ5) hμ5 (by first | exact sub_mem (by decide) | (refine sub_mem ?_; simp [WX2_begin, WX7_begin]; done) | (intro a9 j9 h9; simp [WX2_begin, inW] at h9; simp [WX7_begin, inW]; omega)) fun q6 hq6 => ?_
  exact fr_ret hq6
def WX7_findClashes (t0 : Nat) : List (Nat × Nat × Option Nat) := [((t0 + 11), 1, none), ((t0 + 10), 1, none), ((t0 + 12), 1, none)]
set_option maxRecDepth 100000 in
theorem frX7_findClashes_2 (t0 : Nat)   (μ0 : Mem)  (K : Mem → Option (Mem)) (hK : ∀  (μ : Mem) (_ : Fr (WX7_findClashes t0) μ0 μ), FrO (WX7_findClashes t0) μ0 id (K μ)) : ∀ (n9 : Nat) (v1 : Int32) (μ : Mem) (_ : Fr (WX7_findClashes t0) μ0 μ), FrO (WX7_findClashes t0) μ0 id (fX7_findClashes_2 t0 K n9 v1 μ) := by
  intro n9
  induction n9 with
  | zero => intros; exact fr_none
  | succ n ih =>
    intro v1 μ hμ
    unfold fX7_findClashes_2
    refine fr_if ?_ ?_
    · refine fr_g ?_
      refine fr_g ?_
      refine fr_g (fr_wJ hμ (by first | exact inw_n (by decide) | exact inw_s (by decide) | (simp [WX7_findClashes, inW]; done) | (simp [WX7_findClashes, inW]; omega)) fun μ1 hμ1 => ?_)
      exact ih (v1 + 1) μ1 hμ1
    · exact hK μ hμ
set_option maxRecDepth 100000 in
theorem frX7_findClashes_63 (t0 : Nat)  (v1 : Int32) (μ0 : Mem)  (K : Mem → Option (Mem)) (hK : ∀  (μ : Mem) (_ : Fr (WX7_findClashes t0) μ0 μ), FrO (WX7_findClashes t0) μ0 id (K μ)) : ∀ (n9 : Nat) (v2 : Int32) (μ : Mem) (_ : Fr (WX7_findClashes t0) μ0 μ), FrO (WX7_findClashes t0) μ0 id (fX7_findClashes_63 t0 v1 K n9 v2 μ) := by
  intro n9
  induction n9 with
  | zero => intros; exact fr_none
  | succ n ih =>
    intro v2 μ hμ
    unfold fX7_findClashes_63
    refine fr_if ?_ ?_
    · refine fr_if ?_ ?_
      · exact ih (v2 + 1) μ hμ
      · refine fr_g ?_
        refine fr_g ?_
        refine fr_if ?_ ?_
        · exact ih (v2 + 1) μ hμ
        · refine fr_g ?_
          refine fr_g (fr_wI hμ (by first | exact inw_n (by decide) | exact inw_s (by decide) | (simp [WX7_findClashes, inW]; done) | (simp [WX7_findClashes, inW]; omega)) fun μ4 hμ4 => ?_)
          exact ih (v2 + 1) μ4 hμ4
    · exact hK μ hμ
set_option maxRecDepth 100000 in
theorem frX7_findClashes_41 (t0 : Nat)   (μ0 : Mem)  (K : Mem → Option (Mem)) (hK : ∀  (μ : Mem) (_ : Fr (WX7_findClashes t0) μ0 μ), FrO (WX7_findClashes t0) μ0 id (K μ)) : ∀ (n9 : Nat) (v1 : Int32) (μ : Mem) (_ : Fr (WX7_findClashes t0) μ0 μ), FrO (WX7_findClashes t0) μ0 id (fX7_findClashes_41 t0 K n9 v1 μ) := by
  intro n9
  induction n9 with
  | zero => intros; exact fr_none
  | succ n ih =>
    intro v1 μ hμ
    unfold fX7_findClashes_41
    refine fr_if ?_ ?_
    · refine fr_g ?_
      refine fr_g (fr_wI hμ (by first | exact inw_n (by decide) | exact inw_s (by decide) | (simp [WX7_findClashes, inW]; done) | (simp [WX7_findClashes, inW]; omega)) fun μ3 hμ3 => ?_)
      refine frX7_findClashes_63 t0 v1 μ0 _ (fun μ5 hμ5 => ?_) FU 0 μ3 hμ3
      exact ih (v1 + 1) μ5 hμ5
    · exact hK μ hμ
set_option maxRecDepth 100000 in
theorem frX7_findClashes_120 (t0 : Nat)   (μ0 : Mem)  (K : Mem → Option (Mem)) (hK : ∀  (μ : Mem) (_ : Fr (WX7_findClashes t0) μ0 μ), FrO (WX7_findClashes t0) μ0 id (K μ)) : ∀ (n9 : Nat) (v1 : Int32) (μ : Mem) (_ : Fr (WX7_findClashes t0) μ0 μ), FrO (WX7_findClashes t0) μ0 id (fX7_findClashes_120 t0 K n9 v1 μ) := by
  intro n9
  induction n9 with
  | zero => intros; exact fr_none
  | succ n ih =>
    intro v1 μ hμ
    unfold fX7_findClashes_120
    refine fr_if ?_ ?_
    · refine fr_bp fun q7 => ?_
      refine fr_g (fr_wI hμ (by first | exact inw_n (by decide) | exact inw_s (by decide) | (simp [WX7_findClashes, inW]; done) | (simp [WX7_findClashes, inW]; omega)) fun μ8 hμ8 => ?_)
      exact ih (v1 + 1) μ8 hμ8
    · exact hK μ hμ
set_option maxRecDepth 100000 in
theorem frX7_findClashes  (t0 : Nat) (μ : Mem) : FrO (WX7_findClashes t0) μ id (fX7_findClashes t0 μ) := by
  suffices hh : ∀ μ0 : Mem, Fr (WX7_findClashes t0) μ0 μ → FrO (WX7_findClashes t0) μ0 id (fX7_findClashes t0 μ) from hh μ Fr.rfl
  intro μ0 hμ
  unfold fX7_findClashes
  refine frX7_findClashes_2 t0 μ0 _ (fun μ2 hμ2 => ?_) FU 0 μ hμ
  refine frX7_findClashes_41 t0 μ0 _ (fun μ6 hμ6 => ?_) FU 0 μ2 hμ2
  refine frX7_findClashes_120 t0 μ0 _ (fun μ9 hμ9 => ?_) FU 0 μ6 hμ6
  exact fr_ret hμ9
def WX6_addFour : List (Nat × Nat × Option Nat) := [(2, 1, none), (1, 1, some 1)]
set_option maxRecDepth 100000 in
theorem frX6_addFour_3   (v1 : Int32) (μ0 : Mem)  (K : Mem → Option (Mem)) (hK : ∀  (μ : Mem) (_ : Fr (WX6_addFour) μ0 μ), FrO (WX6_addFour) μ0 id (K μ)) : ∀ (n9 : Nat) (v2 : Int32) (μ : Mem) (_ : Fr (WX6_addFour) μ0 μ), FrO (WX6_addFour) μ0 id (fX6_addFour_3 v1 K n9 v2 μ) := by
  intro n9
  induction n9 with
  | zero => intros; exact fr_none
  | succ n ih =>
    intro v2 μ hμ
    unfold fX6_addFour_3
    refine fr_if ?_ ?_
    · exact hK μ hμ
    · refine fr_if ?_ ?_
      · refine fr_g (fr_wI hμ (inw_n (by decide)) fun μ1 hμ1 => ?_)
        refine fr_wI hμ1 (inw_s (by decide)) fun μ2 hμ2 => ?_
        exact ih (v2 + (-8)) μ2 hμ2
      · exact ih (v2 + (-8)) μ hμ
set_option maxRecDepth 100000 in
theorem frX6_addFour  (a1 : Int32) (μ : Mem) : FrO (WX6_addFour) μ id (fX6_addFour a1 μ) := by
  suffices hh : ∀ μ0 : Mem, Fr (WX6_addFour) μ0 μ → FrO (WX6_addFour) μ0 id (fX6_addFour a1 μ) from hh μ Fr.rfl
  intro μ0 hμ
  unfold fX6_addFour
  refine frX6_addFour_3 a1 μ0 _ (fun μ3 hμ3 => ?_) FU 24 μ hμ
  exact fr_ret hμ3
def WX10_feed : List (Nat × Nat × Option Nat) := [(2, 1, none), (1, 1, some 1)]
set_option maxRecDepth 100000 in
theorem frX10_feed  (a1 : Int32) (a2 : Int32) (a3 : Int32) (a4 : Int32) (a5 : Int32) (μ : Mem) : FrO (WX10_feed) μ Prod.snd (fX10_feed a1 a2 a3 a4 a5 μ) := by
  suffices hh : ∀ μ0 : Mem, Fr (WX10_feed) μ0 μ → FrO (WX10_feed) μ0 Prod.snd (fX10_feed a1 a2 a3 a4 a5 μ) from hh μ Fr.rfl
  intro μ0 hμ
  unfold fX10_feed
  refine fr_bp fun q1 => ?_
  refine fr_if ?_ ?_
  · refine fr_bv (frX6_addFour a1 μ) hμ (by first | exact sub_mem (by decide) | (refine sub_mem ?_; simp [WX6_addFour, WX10_feed]; done) | (intro a9 j9 h9; simp [WX6_addFour, inW] at h9; simp [WX10_feed, inW]; omega)) fun q2 hq2 => ?_
    refine fr_bv (frX6_addFour a2 q2) hq2 (by first | exact sub_mem (by decide) | (refine sub_mem ?_; simp [WX6_addFour, WX10_feed]; done) | (intro a9 j9 h9; simp [WX6_addFour, inW] at h9; simp [WX10_feed, inW]; omega)) fun q3 hq3 => ?_
    refine fr_bv (frX6_addFour a3 q3) hq3 (by first | exact sub_mem (by decide) | (refine sub_mem ?_; simp [WX6_addFour, WX10_feed]; done) | (intro a9 j9 h9; simp [WX6_addFour, inW] at h9; simp [WX10_feed, inW]; omega)) fun q4 hq4 => ?_
    refine fr_bv (frX6_addFour a4 q4) hq4 (by first | exact sub_mem (by decide) | (refine sub_mem ?_; simp [WX6_addFour, WX10_feed]; done) | (intro a9 j9 h9; simp [WX6_addFour, inW] at h9; simp [WX10_feed, inW]; omega)) fun q5 hq5 => ?_
    refine fr_bv (frX6_addFour a5 q5) hq5 (by first | exact sub_mem (by decide) | (refine sub_mem ?_; simp [WX6_addFour, WX10_feed]; done) | (intro a9 j9 h9; simp [WX6_addFour, inW] at h9; simp [WX10_feed, inW]; omega)) fun q6 hq6 => ?_
    exact fr_ret hq6
  · exact fr_ret hμ
def WX10_back : List (Nat × Nat × Option Nat) := [(1, 1, some 1)]
set_option maxRecDepth 100000 in
theorem frX10_back  (a1 : Int32) (μ : Mem) : FrO (WX10_back) μ Prod.snd (fX10_back a1 μ) := by
  suffices hh : ∀ μ0 : Mem, Fr (WX10_back) μ0 μ → FrO (WX10_back) μ0 Prod.snd (fX10_back a1 μ) from hh μ Fr.rfl
  intro μ0 hμ
  unfold fX10_back
  refine fr_if ?_ ?_
  · exact fr_ret hμ
  · refine fr_if ?_ ?_
    · exact fr_ret hμ
    · refine fr_wI hμ (inw_s (by decide)) fun μ1 hμ1 => ?_
      exact fr_ret hμ1
def WX8_add : List (Nat × Nat × Option Nat) := [(5, 1, none), (6, 1, none), (7, 1, none), (4, 1, some 4)]
set_option maxRecDepth 100000 in
theorem frX8_add  (a1 : Int32) (a2 : Int32) (a3 : Int64) (μ : Mem) : FrO (WX8_add) μ id (fX8_add a1 a2 a3 μ) := by
  suffices hh : ∀ μ0 : Mem, Fr (WX8_add) μ0 μ → FrO (WX8_add) μ0 id (fX8_add a1 a2 a3 μ) from hh μ Fr.rfl
  intro μ0 hμ
  unfold fX8_add
  refine fr_if ?_ ?_
  · refine fr_g (fr_wI hμ (inw_n (by decide)) fun μ1 hμ1 => ?_)
    refine fr_g (fr_wI hμ1 (inw_n (by decide)) fun μ2 hμ2 => ?_)
    refine fr_g (fr_wJ hμ2 (inw_n (by decide)) fun μ3 hμ3 => ?_)
    refine fr_wI hμ3 (inw_s (by decide)) fun μ4 hμ4 => ?_
    exact fr_ret hμ4
  · exact fr_ret hμ
def WX8_cutLetters : List (Nat × Nat × Option Nat) := [(5, 1, none), (6, 1, none), (7, 1, none), (4, 1, some 4)]
set_option maxRecDepth 100000 in
theorem frX8_cutLetters_5   (v2 : Int32) (μ0 : Mem) (μ : Mem) (hμ : Fr (WX8_cutLetters) μ0 μ) (K : Int32 → Int64 → Option (Int32 × Mem)) (hK : ∀ (v3 : Int32) (v4 : Int64), FrO (WX8_cutLetters) μ0 Prod.snd (K v3 v4)) : ∀ (n9 : Nat) (v3 : Int32) (v4 : Int64), FrO (WX8_cutLetters) μ0 Prod.snd (fX8_cutLetters_5 v2 μ K n9 v3 v4) := by
  intro n9
  induction n9 with
  | zero => intros; exact fr_none
  | succ n ih =>
    intro v3 v4
    unfold fX8_cutLetters_5
    refine fr_if ?_ ?_
    · refine fr_g ?_
      refine fr_bp fun q1 => ?_
      refine fr_if ?_ ?_
      · refine fr_g ?_
        refine fr_nmv fun x2 => ?_
        exact ih (v3 + 1) x2
      · exact hK v3 v4
    · exact hK v3 v4
set_option maxRecDepth 100000 in
theorem frX8_cutLetters_j50   (v2 : Int32) (v3 : Int32) (v4 : Int64) (μ0 : Mem) (μ : Mem) (hμ : Fr (WX8_cutLetters) μ0 μ)  : FrO (WX8_cutLetters) μ0 Prod.snd (fX8_cutLetters_j50 v2 v3 v4 μ) := by
  unfold fX8_cutLetters_j50
  refine fr_if ?_ ?_
  · refine fr_bv (frX8_add 1 v2 v4 μ) hμ (by first | exact sub_mem (by decide) | (refine sub_mem ?_; simp [WX8_add, WX8_cutLetters]; done) | (intro a9 j9 h9; simp [WX8_add, inW] at h9; simp [WX8_cutLetters, inW]; omega)) fun q7 hq7 => ?_
    exact fr_ret hq7
  · refine fr_bp fun q5 => ?_
    refine fr_bv (frX8_add q5 v2 v4 μ) hμ (by first | exact sub_mem (by decide) | (refine sub_mem ?_; simp [WX8_add, WX8_cutLetters]; done) | (intro a9 j9 h9; simp [WX8_add, inW] at h9; simp [WX8_cutLetters, inW]; omega)) fun q6 hq6 => ?_
    exact fr_ret hq6
set_option maxRecDepth 100000 in
theorem frX8_cutLetters  (a2 : Int32) (μ : Mem) : FrO (WX8_cutLetters) μ Prod.snd (fX8_cutLetters a2 μ) := by
  suffices hh : ∀ μ0 : Mem, Fr (WX8_cutLetters) μ0 μ → FrO (WX8_cutLetters) μ0 Prod.snd (fX8_cutLetters a2 μ) from hh μ Fr.rfl
  intro μ0 hμ
  unfold fX8_cutLetters
  refine frX8_cutLetters_5 a2 μ0 μ hμ _ (fun y3 y4 => ?_) FU a2 0
  exact frX8_cutLetters_j50 a2 y3 y4 μ0 μ hμ
def WX8_cutDigits : List (Nat × Nat × Option Nat) := [(5, 1, none), (6, 1, none), (7, 1, none), (4, 1, some 4)]
set_option maxRecDepth 100000 in
theorem frX8_cutDigits_5   (v2 : Int32) (μ0 : Mem) (μ : Mem) (hμ : Fr (WX8_cutDigits) μ0 μ) (K : Int32 → Int32 → Option (Int32 × Mem)) (hK : ∀ (v3 : Int32) (v4 : Int32), FrO (WX8_cutDigits) μ0 Prod.snd (K v3 v4)) : ∀ (n9 : Nat) (v3 : Int32) (v4 : Int32), FrO (WX8_cutDigits) μ0 Prod.snd (fX8_cutDigits_5 v2 μ K n9 v3 v4) := by
  intro n9
  induction n9 with
  | zero => intros; exact fr_none
  | succ n ih =>
    intro v3 v4
    unfold fX8_cutDigits_5
    refine fr_if ?_ ?_
    · refine fr_g ?_
      refine fr_bp fun q1 => ?_
      refine fr_if ?_ ?_
      · refine fr_g ?_
        refine fr_nmv fun x2 => ?_
        exact ih (v3 + 1) x2
      · exact hK v3 v4
    · exact hK v3 v4
set_option maxRecDepth 100000 in
theorem frX8_cutDigits_j48   (v2 : Int32) (v3 : Int32) (v4 : Int32) (μ0 : Mem) (μ : Mem) (hμ : Fr (WX8_cutDigits) μ0 μ)  : FrO (WX8_cutDigits) μ0 Prod.snd (fX8_cutDigits_j48 v2 v3 v4 μ) := by
  unfold fX8_cutDigits_j48
  refine fr_if ?_ ?_
  · refine fr_bv (frX8_add 1 v2 v4.toInt64 μ) hμ (by first | exact sub_mem (by decide) | (refine sub_mem ?_; simp [WX8_add, WX8_cutDigits]; done) | (intro a9 j9 h9; simp [WX8_add, inW] at h9; simp [WX8_cutDigits, inW]; omega)) fun q6 hq6 => ?_
    exact fr_ret hq6
  · refine fr_bv (frX8_add 3 v2 v4.toInt64 μ) hμ (by first | exact sub_mem (by decide) | (refine sub_mem ?_; simp [WX8_add, WX8_cutDigits]; done) | (intro a9 j9 h9; simp [WX8_add, inW] at h9; simp [WX8_cutDigits, inW]; omega)) fun q5 hq5 => ?_
    exact fr_ret hq5
set_option maxRecDepth 100000 in
theorem frX8_cutDigits  (a2 : Int32) (μ : Mem) : FrO (WX8_cutDigits) μ Prod.snd (fX8_cutDigits a2 μ) := by
  suffices hh : ∀ μ0 : Mem, Fr (WX8_cutDigits) μ0 μ → FrO (WX8_cutDigits) μ0 Prod.snd (fX8_cutDigits a2 μ) from hh μ Fr.rfl
  intro μ0 hμ
  unfold fX8_cutDigits
  refine frX8_cutDigits_5 a2 μ0 μ hμ _ (fun y3 y4 => ?_) FU a2 0
  exact frX8_cutDigits_j48 a2 y3 y4 μ0 μ hμ
def WX8_cutOne : List (Nat × Nat × Option Nat) := [(5, 1, none), (6, 1, none), (7, 1, none), (4, 1, some 4)]
set_option maxRecDepth 100000 in
theorem frX8_cutOne_j50   (v2 : Int32) (s0 : Int32) (μ0 : Mem) (μ : Mem) (hμ : Fr (WX8_cutOne) μ0 μ)  : FrO (WX8_cutOne) μ0 Prod.snd (fX8_cutOne_j50 v2 s0 μ) := by
  unfold fX8_cutOne_j50
  refine fr_if ?_ ?_
  · refine fr_bv (frX8_add 1 v2 0 μ) hμ (by first | exact sub_mem (by decide) | (refine sub_mem ?_; simp [WX8_add, WX8_cutOne]; done) | (intro a9 j9 h9; simp [WX8_add, inW] at h9; simp [WX8_cutOne, inW]; omega)) fun q5 hq5 => ?_
    exact fr_ret hq5
  · refine fr_bv (frX8_add (4 + s0) v2 0 μ) hμ (by first | exact sub_mem (by decide) | (refine sub_mem ?_; simp [WX8_add, WX8_cutOne]; done) | (intro a9 j9 h9; simp [WX8_add, inW] at h9; simp [WX8_cutOne, inW]; omega)) fun q4 hq4 => ?_
    exact fr_ret hq4
set_option maxRecDepth 100000 in
theorem frX8_cutOne  (a2 : Int32) (μ : Mem) : FrO (WX8_cutOne) μ Prod.snd (fX8_cutOne a2 μ) := by
  suffices hh : ∀ μ0 : Mem, Fr (WX8_cutOne) μ0 μ → FrO (WX8_cutOne) μ0 Prod.snd (fX8_cutOne a2 μ) from hh μ Fr.rfl
  intro μ0 hμ
  unfold fX8_cutOne
  refine fr_g ?_
  refine fr_nmv fun x1 => ?_
  refine fr_bp fun q2 => ?_
  refine fr_if ?_ ?_
  · refine fr_bm (frX8_cutLetters a2 μ) hμ (by first | exact sub_mem (by decide) | (refine sub_mem ?_; simp [WX8_cutLetters, WX8_cutOne]; done) | (intro a9 j9 h9; simp [WX8_cutLetters, inW] at h9; simp [WX8_cutOne, inW]; omega)) fun q7 hq7 => ?_
    exact fr_ret hq7
  · refine fr_bp fun q3 => ?_
    refine fr_if ?_ ?_
    · refine fr_bm (frX8_cutDigits a2 μ) hμ (by first | exact sub_mem (by decide) | (refine sub_mem ?_; simp [WX8_cutDigits, WX8_cutOne]; done) | (intro a9 j9 h9; simp [WX8_cutDigits, inW] at h9; simp [WX8_cutOne, inW]; omega)) fun q6 hq6 => ?_
      exact fr_ret hq6
    · refine fr_if ?_ ?_
      · exact frX8_cutOne_j50 a2 (idxS (i2c x1)) μ0 μ hμ
      · exact frX8_cutOne_j50 a2 (-1) μ0 μ hμ
def WX8_cut : List (Nat × Nat × Option Nat) := [(4, 1, some 4), (5, 1, none), (6, 1, none), (7, 1, none)]
set_option maxRecDepth 100000 in
theorem frX8_cut_9    (μ0 : Mem)  (K : Mem → Option (Mem)) (hK : ∀  (μ : Mem) (_ : Fr (WX8_cut) μ0 μ), FrO (WX8_cut) μ0 id (K μ)) : ∀ (n9 : Nat) (v2 : Int32) (v3 : Int32) (μ : Mem) (_ : Fr (WX8_cut) μ0 μ), FrO (WX8_cut) μ0 id (fX8_cut_9 K n9 v2 v3 μ) := by
  intro n9
  induction n9 with
  | zero => intros; exact fr_none
  | succ n ih =>
    intro v2 v3 μ hμ
    unfold fX8_cut_9
    refine fr_if ?_ ?_
    · exact hK μ hμ
    · refine fr_bp fun q2 => ?_
      refine fr_if ?_ ?_
      · refine fr_bm (frX8_cutOne q2 μ) hμ (by first | exact sub_mem (by decide) | (refine sub_mem ?_; simp [WX8_cutOne, WX8_cut]; done) | (intro a9 j9 h9; simp [WX8_cutOne, inW] at h9; simp [WX8_cut, inW]; omega)) fun q3 hq3 => ?_
        refine fr_g ?_
        refine fr_if ?_ ?_
        · exact fr_ret hq3
        · exact ih q3.1 (v3 + 1) q3.2 hq3
      · exact hK μ hμ
set_option maxRecDepth 100000 in
theorem frX8_cut   (μ : Mem) : FrO (WX8_cut) μ id (fX8_cut  μ) := by
  suffices hh : ∀ μ0 : Mem, Fr (WX8_cut) μ0 μ → FrO (WX8_cut) μ0 id (fX8_cut  μ) from hh μ Fr.rfl
  intro μ0 hμ
  unfold fX8_cut
  refine fr_wI hμ (inw_s (by decide)) fun μ1 hμ1 => ?_
  refine frX8_cut_9 μ0 _ (fun μ4 hμ4 => ?_) FU 0 0 μ1 hμ1
  refine fr_bv (frX8_add 0 (μ4.1 1 1) 0 μ4) hμ4 (by first | exact sub_mem (by decide) | (refine sub_mem ?_; simp [WX8_add, WX8_cut]; done) | (intro a9 j9 h9; simp [WX8_add, inW] at h9; simp [WX8_cut, inW]; omega)) fun q5 hq5 => ?_
  exact fr_ret hq5
def WX4_fail : List (Nat × Nat × Option Nat) := [(3, 1, some 0)]
set_option maxRecDepth 100000 in
theorem frX4_fail  (a1 : Int32) (μ : Mem) : FrO (WX4_fail) μ Prod.snd (fX4_fail a1 μ) := by
  suffices hh : ∀ μ0 : Mem, Fr (WX4_fail) μ0 μ → FrO (WX4_fail) μ0 Prod.snd (fX4_fail a1 μ) from hh μ Fr.rfl
  intro μ0 hμ
  unfold fX4_fail
  refine fr_wI hμ (inw_s (by decide)) fun μ1 hμ1 => ?_
  exact fr_ret hμ1
def WX4_take : List (Nat × Nat × Option Nat) := [(3, 1, some 0), (3, 1, some 3)]
set_option maxRecDepth 100000 in
theorem frX4_take_j21   (s0 : Int32) (μ0 : Mem) (μ : Mem) (hμ : Fr (WX4_take) μ0 μ)  : FrO (WX4_take) μ0 Prod.snd (fX4_take_j21 s0 μ) := by
  unfold fX4_take_j21
  refine fr_if ?_ ?_
  · refine fr_if ?_ ?_
    · refine fr_wI hμ (inw_s (by decide)) fun μ1 hμ1 => ?_
      exact fr_ret hμ1
    · refine fr_wI hμ (inw_s (by decide)) fun μ2 hμ2 => ?_
      exact fr_ret hμ2
  · refine fr_if ?_ ?_
    · refine fr_wI hμ (inw_s (by decide)) fun μ3 hμ3 => ?_
      exact fr_ret hμ3
    · refine fr_if ?_ ?_
      · refine fr_wI hμ (inw_s (by decide)) fun μ4 hμ4 => ?_
        exact fr_ret hμ4
      · refine fr_wI hμ (inw_s (by decide)) fun μ5 hμ5 => ?_
        exact fr_ret hμ5
set_option maxRecDepth 100000 in
theorem frX4_take  (a1 : Int32) (μ : Mem) : FrO (WX4_take) μ Prod.snd (fX4_take a1 μ) := by
  suffices hh : ∀ μ0 : Mem, Fr (WX4_take) μ0 μ → FrO (WX4_take) μ0 Prod.snd (fX4_take a1 μ) from hh μ Fr.rfl
  intro μ0 hμ
  unfold fX4_take
  refine fr_g ?_
  refine fr_if ?_ ?_
  · exact frX4_take_j21 1 μ0 μ hμ
  · exact frX4_take_j21 0 μ0 μ hμ
def WX4_keepLate : List (Nat × Nat × Option Nat) := [(3, 1, some 4), (3, 1, some 5)]
set_option maxRecDepth 100000 in
theorem frX4_keepLate  (a1 : Int32) (a2 : Int32) (μ : Mem) : FrO (WX4_keepLate) μ id (fX4_keepLate a1 a2 μ) := by
  suffices hh : ∀ μ0 : Mem, Fr (WX4_keepLate) μ0 μ → FrO (WX4_keepLate) μ0 id (fX4_keepLate a1 a2 μ) from hh μ Fr.rfl
  intro μ0 hμ
  unfold fX4_keepLate
  refine fr_if ?_ ?_
  · refine fr_wI hμ (inw_s (by decide)) fun μ1 hμ1 => ?_
    refine fr_g ?_
    refine fr_wI hμ1 (inw_s (by decide)) fun μ2 hμ2 => ?_
    exact fr_ret hμ2
  · exact fr_ret hμ
def WX4_takeNewName : List (Nat × Nat × Option Nat) := [(3, 1, some 0), (3, 1, some 3), (3, 1, some 4), (3, 1, some 5)]
set_option maxRecDepth 100000 in
theorem frX4_takeNewName  (t1 : Nat) (μ : Mem) : FrO (WX4_takeNewName) μ Prod.snd (fX4_takeNewName t1 μ) := by
  suffices hh : ∀ μ0 : Mem, Fr (WX4_takeNewName) μ0 μ → FrO (WX4_takeNewName) μ0 Prod.snd (fX4_takeNewName t1 μ) from hh μ Fr.rfl
  intro μ0 hμ
  unfold fX4_takeNewName
  refine fr_bm (frX4_take 2 μ) hμ (by first | exact sub_mem (by decide) | (refine sub_mem ?_; simp [WX4_take, WX4_takeNewName]; done) | (intro a9 j9 h9; simp [WX4_take, inW] at h9; simp [WX4_takeNewName, inW]; omega)) fun q1 hq1 => ?_
  refine fr_if ?_ ?_
  · refine fr_g ?_
    refine fr_bp fun q2 => ?_
    refine fr_if ?_ ?_
    · refine fr_bv (frX4_keepLate 3 ((q1.2.1 3 3) - 1) q1.2) hq1 (by first | exact sub_mem (by decide) | (refine sub_mem ?_; simp [WX4_keepLate, WX4_takeNewName]; done) | (intro a9 j9 h9; simp [WX4_keepLate, inW] at h9; simp [WX4_takeNewName, inW]; omega)) fun q3 hq3 => ?_
      exact fr_ret hq3
    · exact fr_ret hq1
  · exact fr_ret hq1
def WX4_takeInt : List (Nat × Nat × Option Nat) := [(3, 1, some 0), (3, 1, some 3), (3, 1, some 4), (3, 1, some 5)]
set_option maxRecDepth 100000 in
theorem frX4_takeInt  (a1 : Int32) (a2 : Int32) (μ : Mem) : FrO (WX4_takeInt) μ Prod.snd (fX4_takeInt a1 a2 μ) := by
  suffices hh : ∀ μ0 : Mem, Fr (WX4_takeInt) μ0 μ → FrO (WX4_takeInt) μ0 Prod.snd (fX4_takeInt a1 a2 μ) from hh μ Fr.rfl
  intro μ0 hμ
  unfold fX4_takeInt
  refine fr_bm (frX4_take 3 μ) hμ (by first | exact sub_mem (by decide) | (refine sub_mem ?_; simp [WX4_take, WX4_takeInt]; done) | (intro a9 j9 h9; simp [WX4_take, inW] at h9; simp [WX4_takeInt, inW]; omega)) fun q1 hq1 => ?_
  refine fr_if ?_ ?_
  · refine fr_bp fun q2 => ?_
    refine fr_if ?_ ?_
    · refine fr_bv (frX4_keepLate 5 ((q1.2.1 3 3) - 1) q1.2) hq1 (by first | exact sub_mem (by decide) | (refine sub_mem ?_; simp [WX4_keepLate, WX4_takeInt]; done) | (intro a9 j9 h9; simp [WX4_keepLate, inW] at h9; simp [WX4_takeInt, inW]; omega)) fun q3 hq3 => ?_
      exact fr_ret hq3
    · refine fr_if ?_ ?_
      · refine fr_bv (frX4_keepLate 5 ((q1.2.1 3 3) - 1) q1.2) hq1 (by first | exact sub_mem (by decide) | (refine sub_mem ?_; simp [WX4_keepLate, WX4_takeInt]; done) | (intro a9 j9 h9; simp [WX4_keepLate, inW] at h9; simp [WX4_takeInt, inW]; omega)) fun q4 hq4 => ?_
        exact fr_ret hq4
      · exact fr_ret hq1
  · exact fr_ret hq1
def WX7_addSunday (t0 : Nat) : List (Nat × Nat × Option Nat) := [((t0 + 14), 1, none), ((t0 + 1), 1, none), ((t0 + 2), 1, none), (t0, 1, some 0)]
set_option maxRecDepth 100000 in
theorem frX7_addSunday  (t0 : Nat) (a1 : Int64) (a2 : Int32) (a3 : Int32) (μ : Mem) : FrO (WX7_addSunday t0) μ id (fX7_addSunday t0 a1 a2 a3 μ) := by
  suffices hh : ∀ μ0 : Mem, Fr (WX7_addSunday t0) μ0 μ → FrO (WX7_addSunday t0) μ0 id (fX7_addSunday t0 a1 a2 a3 μ) from hh μ Fr.rfl
  intro μ0 hμ
  unfold fX7_addSunday
  refine fr_if ?_ ?_
  · refine fr_g (fr_wJ hμ (by first | exact inw_n (by decide) | exact inw_s (by decide) | (simp [WX7_addSunday, inW]; done) | (simp [WX7_addSunday, inW]; omega)) fun μ1 hμ1 => ?_)
    refine fr_g (fr_wI hμ1 (by first | exact inw_n (by decide) | exact inw_s (by decide) | (simp [WX7_addSunday, inW]; done) | (simp [WX7_addSunday, inW]; omega)) fun μ2 hμ2 => ?_)
    refine fr_g (fr_wI hμ2 (by first | exact inw_n (by decide) | exact inw_s (by decide) | (simp [WX7_addSunday, inW]; done) | (simp [WX7_addSunday, inW]; omega)) fun μ3 hμ3 => ?_)
    refine fr_wI hμ3 (by first | exact inw_n (by decide) | exact inw_s (by decide) | (simp [WX7_addSunday, inW]; done) | (simp [WX7_addSunday, inW]; omega)) fun μ4 hμ4 => ?_
    exact fr_ret hμ4
  · exact fr_ret hμ
def WX4_readSunday (t1 : Nat) : List (Nat × Nat × Option Nat) := [(3, 1, some 0), (3, 1, some 3), (3, 1, some 4), (3, 1, some 5), ((t1 + 14), 1, none), ((t1 + 1), 1, none), ((t1 + 2), 1, none), (t1, 1, some 0)]
set_option maxRecDepth 100000 in
theorem frX4_readSunday  (t1 : Nat) (μ : Mem) : FrO (WX4_readSunday t1) μ Prod.snd (fX4_readSunday t1 μ) := by
  suffices hh : ∀ μ0 : Mem, Fr (WX4_readSunday t1) μ0 μ → FrO (WX4_readSunday t1) μ0 Prod.snd (fX4_readSunday t1 μ) from hh μ Fr.rfl
  intro μ0 hμ
  unfold fX4_readSunday
  refine fr_if ?_ ?_
  · refine fr_bm (frX4_take 13 μ) hμ (by first | exact sub_mem (by decide) | (refine sub_mem ?_; simp [WX4_take, WX4_readSunday]; done) | (intro a9 j9 h9; simp [WX4_take, inW] at h9; simp [WX4_readSunday, inW]; omega)) fun q1 hq1 => ?_
    refine fr_if ?_ ?_
    · refine fr_bm (frX4_takeNewName t1 q1.2) hq1 (by first | exact sub_mem (by decide) | (refine sub_mem ?_; simp [WX4_takeNewName, WX4_readSunday]; done) | (intro a9 j9 h9; simp [WX4_takeNewName, inW] at h9; simp [WX4_readSunday, inW]; omega)) fun q2 hq2 => ?_
      refine fr_if ?_ ?_
      · refine fr_bm (frX4_takeInt 1 24 q2.2) hq2 (by first | exact sub_mem (by decide) | (refine sub_mem ?_; simp [WX4_takeInt, WX4_readSunday]; done) | (intro a9 j9 h9; simp [WX4_takeInt, inW] at h9; simp [WX4_readSunday, inW]; omega)) fun q3 hq3 => ?_
        refine fr_if ?_ ?_
        · refine fr_bm (frX4_takeInt 0 99 q3.2) hq3 (by first | exact sub_mem (by decide) | (refine sub_mem ?_; simp [WX4_takeInt, WX4_readSunday]; done) | (intro a9 j9 h9; simp [WX4_takeInt, inW] at h9; simp [WX4_readSunday, inW]; omega)) fun q4 hq4 => ?_
          refine fr_if ?_ ?_
          · refine fr_bm (frX4_take 4 q4.2) hq4 (by first | exact sub_mem (by decide) | (refine sub_mem ?_; simp [WX4_take, WX4_readSunday]; done) | (intro a9 j9 h9; simp [WX4_take, inW] at h9; simp [WX4_readSunday, inW]; omega)) fun q5 hq5 => ?_
            refine fr_if ?_ ?_
            · refine fr_g ?_
              refine fr_bp fun q6 => ?_
              refine fr_bp fun q7 => ?_
              refine fr_bv (frX7_addSunday t1 (q5.2.2 7 ((q5.2.1 3 3) - 4).toNatClampNeg) q6 q7 q5.2) hq5 (by first | exact sub_mem (by decide) | (refine sub_mem ?_; simp [WX7_addSunday, WX4_readSunday]; done) | (intro a9 j9 h9; simp [WX7_addSunday, inW] at h9; simp [WX4_readSunday, inW]; omega)) fun q8 hq8 => ?_
              exact fr_ret hq8
            · exact fr_ret hq5
          · exact fr_ret hq4
        · exact fr_ret hq3
      · exact fr_ret hq2
    · exact fr_ret hq1
  · refine fr_bm (frX4_fail 2 μ) hμ (by first | exact sub_mem (by decide) | (refine sub_mem ?_; simp [WX4_fail, WX4_readSunday]; done) | (intro a9 j9 h9; simp [WX4_fail, inW] at h9; simp [WX4_readSunday, inW]; omega)) fun q9 hq9 => ?_
    exact fr_ret hq9
def WX7_addGuest (t0 : Nat) : List (Nat × Nat × Option Nat) := [((t0 + 15), 1, none), ((t0 + 3), 1, none), ((t0 + 4), 1, none), ((t0 + 5), 1, none), ((t0 + 13), 1, none), (t0, 1, some 3)]
set_option maxRecDepth 100000 in
theorem frX7_addGuest  (t0 : Nat) (a1 : Int64) (a2 : Int32) (a3 : Int32) (a4 : Int32) (μ : Mem) : FrO (WX7_addGuest t0) μ id (fX7_addGuest t0 a1 a2 a3 a4 μ) := by
  suffices hh : ∀ μ0 : Mem, Fr (WX7_addGuest t0) μ0 μ → FrO (WX7_addGuest t0) μ0 id (fX7_addGuest t0 a1 a2 a3 a4 μ) from hh μ Fr.rfl
  intro μ0 hμ
  unfold fX7_addGuest
  refine fr_if ?_ ?_
  · refine fr_g (fr_wJ hμ (by first | exact inw_n (by decide) | exact inw_s (by decide) | (simp [WX7_addGuest, inW]; done) | (simp [WX7_addGuest, inW]; omega)) fun μ1 hμ1 => ?_)
    refine fr_g (fr_wI hμ1 (by first | exact inw_n (by decide) | exact inw_s (by decide) | (simp [WX7_addGuest, inW]; done) | (simp [WX7_addGuest, inW]; omega)) fun μ2 hμ2 => ?_)
    refine fr_g (fr_wI hμ2 (by first | exact inw_n (by decide) | exact inw_s (by decide) | (simp [WX7_addGuest, inW]; done) | (simp [WX7_addGuest, inW]; omega)) fun μ3 hμ3 => ?_)
    refine fr_g (fr_wI hμ3 (by first | exact inw_n (by decide) | exact inw_s (by decide) | (simp [WX7_addGuest, inW]; done) | (simp [WX7_addGuest, inW]; omega)) fun μ4 hμ4 => ?_)
    refine fr_g (fr_wI hμ4 (by first | exact inw_n (by decide) | exact inw_s (by decide) | (simp [WX7_addGuest, inW]; done) | (simp [WX7_addGuest, inW]; omega)) fun μ5 hμ5 => ?_)
    refine fr_wI hμ5 (by first | exact inw_n (by decide) | exact inw_s (by decide) | (simp [WX7_addGuest, inW]; done) | (simp [WX7_addGuest, inW]; omega)) fun μ6 hμ6 => ?_
    exact fr_ret hμ6
  · exact fr_ret hμ
def WX4_readGuest (t1 : Nat) : List (Nat × Nat × Option Nat) := [(3, 1, some 0), (3, 1, some 3), (3, 1, some 4), (3, 1, some 5), ((t1 + 15), 1, none), ((t1 + 3), 1, none), ((t1 + 4), 1, none), ((t1 + 5), 1, none), ((t1 + 13), 1, none), (t1, 1, some 3)]
set_option maxRecDepth 100000 in
theorem frX4_readGuest  (t1 : Nat) (μ : Mem) : FrO (WX4_readGuest t1) μ Prod.snd (fX4_readGuest t1 μ) := by
  suffices hh : ∀ μ0 : Mem, Fr (WX4_readGuest t1) μ0 μ → FrO (WX4_readGuest t1) μ0 Prod.snd (fX4_readGuest t1 μ) from hh μ Fr.rfl
  intro μ0 hμ
  unfold fX4_readGuest
  refine fr_if ?_ ?_
  · refine fr_bm (frX4_take 14 μ) hμ (by first | exact sub_mem (by decide) | (refine sub_mem ?_; simp [WX4_take, WX4_readGuest]; done) | (intro a9 j9 h9; simp [WX4_take, inW] at h9; simp [WX4_readGuest, inW]; omega)) fun q1 hq1 => ?_
    refine fr_if ?_ ?_
    · refine fr_bm (frX4_takeNewName t1 q1.2) hq1 (by first | exact sub_mem (by decide) | (refine sub_mem ?_; simp [WX4_takeNewName, WX4_readGuest]; done) | (intro a9 j9 h9; simp [WX4_takeNewName, inW] at h9; simp [WX4_readGuest, inW]; omega)) fun q2 hq2 => ?_
      refine fr_if ?_ ?_
      · refine fr_bm (frX4_takeInt 0 23 q2.2) hq2 (by first | exact sub_mem (by decide) | (refine sub_mem ?_; simp [WX4_takeInt, WX4_readGuest]; done) | (intro a9 j9 h9; simp [WX4_takeInt, inW] at h9; simp [WX4_readGuest, inW]; omega)) fun q3 hq3 => ?_
        refine fr_if ?_ ?_
        · refine fr_bm (frX4_takeInt 1 12 q3.2) hq3 (by first | exact sub_mem (by decide) | (refine sub_mem ?_; simp [WX4_takeInt, WX4_readGuest]; done) | (intro a9 j9 h9; simp [WX4_takeInt, inW] at h9; simp [WX4_readGuest, inW]; omega)) fun q4 hq4 => ?_
          refine fr_if ?_ ?_
          · refine fr_bm (frX4_takeInt 0 99 q4.2) hq4 (by first | exact sub_mem (by decide) | (refine sub_mem ?_; simp [WX4_takeInt, WX4_readGuest]; done) | (intro a9 j9 h9; simp [WX4_takeInt, inW] at h9; simp [WX4_readGuest, inW]; omega)) fun q5 hq5 => ?_
            refine fr_if ?_ ?_
            · refine fr_bm (frX4_take 4 q5.2) hq5 (by first | exact sub_mem (by decide) | (refine sub_mem ?_; simp [WX4_take, WX4_readGuest]; done) | (intro a9 j9 h9; simp [WX4_take, inW] at h9; simp [WX4_readGuest, inW]; omega)) fun q6 hq6 => ?_
              refine fr_if ?_ ?_
              · refine fr_g ?_
                refine fr_bp fun q7 => ?_
                refine fr_bp fun q8 => ?_
                refine fr_bp fun q9 => ?_
                refine fr_bv (frX7_addGuest t1 (q6.2.2 7 ((q6.2.1 3 3) - 5).toNatClampNeg) q7 q8 q9 q6.2) hq6 (by first | exact sub_mem (by decide) | (refine sub_mem ?_; simp [WX7_addGuest, WX4_readGuest]; done) | (intro a9 j9 h9; simp [WX7_addGuest, inW] at h9; simp [WX4_readGuest, inW]; omega)) fun q10 hq10 => ?_
                exact fr_ret hq10
              · exact fr_ret hq6
            · exact fr_ret hq5
          · exact fr_ret hq4
        · exact fr_ret hq3
      · exact fr_ret hq2
    · exact fr_ret hq1
  · refine fr_bm (frX4_fail 2 μ) hμ (by first | exact sub_mem (by decide) | (refine sub_mem ?_; simp [WX4_fail, WX4_readGuest]; done) | (intro a9 j9 h9; simp [WX4_fail, inW] at h9; simp [WX4_readGuest, inW]; omega)) fun q11 hq11 => ?_
    exact fr_ret hq11
def WX7_addFoes (t0 : Nat) : List (Nat × Nat × Option Nat) := [(t0, 1, some 7), ((t0 + 13), 1, none)]
set_option maxRecDepth 100000 in
theorem frX7_addFoes  (t0 : Nat) (a1 : Int32) (a2 : Int32) (μ : Mem) : FrO (WX7_addFoes t0) μ id (fX7_addFoes t0 a1 a2 μ) := by
  suffices hh : ∀ μ0 : Mem, Fr (WX7_addFoes t0) μ0 μ → FrO (WX7_addFoes t0) μ0 id (fX7_addFoes t0 a1 a2 μ) from hh μ Fr.rfl
  intro μ0 hμ
  unfold fX7_addFoes
  refine fr_wI hμ (by first | exact inw_n (by decide) | exact inw_s (by decide) | (simp [WX7_addFoes, inW]; done) | (simp [WX7_addFoes, inW]; omega)) fun μ1 hμ1 => ?_
  refine fr_if ?_ ?_
  · exact fr_ret hμ1
  · refine fr_if ?_ ?_
    · exact fr_ret hμ1
    · refine fr_g ?_
      refine fr_g (fr_wI hμ1 (by first | exact inw_n (by decide) | exact inw_s (by decide) | (simp [WX7_addFoes, inW]; done) | (simp [WX7_addFoes, inW]; omega)) fun μ2 hμ2 => ?_)
      refine fr_g ?_
      refine fr_g (fr_wI hμ2 (by first | exact inw_n (by decide) | exact inw_s (by decide) | (simp [WX7_addFoes, inW]; done) | (simp [WX7_addFoes, inW]; omega)) fun μ3 hμ3 => ?_)
      exact fr_ret hμ3
def WX4_readFoes (t1 : Nat) : List (Nat × Nat × Option Nat) := [(3, 1, some 0), (3, 1, some 3), (3, 1, some 4), (3, 1, some 5), (t1, 1, some 7), ((t1 + 13), 1, none)]
set_option maxRecDepth 100000 in
theorem frX4_readFoes  (t1 : Nat) (μ : Mem) : FrO (WX4_readFoes t1) μ Prod.snd (fX4_readFoes t1 μ) := by
  suffices hh : ∀ μ0 : Mem, Fr (WX4_readFoes t1) μ0 μ → FrO (WX4_readFoes t1) μ0 Prod.snd (fX4_readFoes t1 μ) from hh μ Fr.rfl
  intro μ0 hμ
  unfold fX4_readFoes
  refine fr_if ?_ ?_
  · refine fr_bm (frX4_take 15 μ) hμ (by first | exact sub_mem (by decide) | (refine sub_mem ?_; simp [WX4_take, WX4_readFoes]; done) | (intro a9 j9 h9; simp [WX4_take, inW] at h9; simp [WX4_readFoes, inW]; omega)) fun q1 hq1 => ?_
    refine fr_if ?_ ?_
    · refine fr_bm (frX4_take 2 q1.2) hq1 (by first | exact sub_mem (by decide) | (refine sub_mem ?_; simp [WX4_take, WX4_readFoes]; done) | (intro a9 j9 h9; simp [WX4_take, inW] at h9; simp [WX4_readFoes, inW]; omega)) fun q2 hq2 => ?_
      refine fr_if ?_ ?_
      · refine fr_bm (frX4_take 2 q2.2) hq2 (by first | exact sub_mem (by decide) | (refine sub_mem ?_; simp [WX4_take, WX4_readFoes]; done) | (intro a9 j9 h9; simp [WX4_take, inW] at h9; simp [WX4_readFoes, inW]; omega)) fun q3 hq3 => ?_
        refine fr_if ?_ ?_
        · refine fr_bm (frX4_take 4 q3.2) hq3 (by first | exact sub_mem (by decide) | (refine sub_mem ?_; simp [WX4_take, WX4_readFoes]; done) | (intro a9 j9 h9; simp [WX4_take, inW] at h9; simp [WX4_readFoes, inW]; omega)) fun q4 hq4 => ?_
          refine fr_if ?_ ?_
          · refine fr_g ?_
            refine fr_bp fun q5 => ?_
            refine fr_g ?_
            refine fr_bp fun q6 => ?_
            refine fr_if ?_ ?_
            · refine fr_bv (frX4_keepLate 4 ((q4.2.1 3 3) - 3) q4.2) hq4 (by first | exact sub_mem (by decide) | (refine sub_mem ?_; simp [WX4_keepLate, WX4_readFoes]; done) | (intro a9 j9 h9; simp [WX4_keepLate, inW] at h9; simp [WX4_readFoes, inW]; omega)) fun q15 hq15 => ?_
              refine fr_bv (frX7_addFoes t1 q5 q6 q15) hq15 (by first | exact sub_mem (by decide) | (refine sub_mem ?_; simp [WX7_addFoes, WX4_readFoes]; done) | (intro a9 j9 h9; simp [WX7_addFoes, inW] at h9; simp [WX4_readFoes, inW]; omega)) fun q16 hq16 => ?_
              exact fr_ret hq16
            · refine fr_if ?_ ?_
              · refine fr_bv (frX4_keepLate 4 ((q4.2.1 3 3) - 2) q4.2) hq4 (by first | exact sub_mem (by decide) | (refine sub_mem ?_; simp [WX4_keepLate, WX4_readFoes]; done) | (intro a9 j9 h9; simp [WX4_keepLate, inW] at h9; simp [WX4_readFoes, inW]; omega)) fun q13 hq13 => ?_
                refine fr_bv (frX7_addFoes t1 q5 q6 q13) hq13 (by first | exact sub_mem (by decide) | (refine sub_mem ?_; simp [WX7_addFoes, WX4_readFoes]; done) | (intro a9 j9 h9; simp [WX7_addFoes, inW] at h9; simp [WX4_readFoes, inW]; omega)) fun q14 hq14 => ?_
                exact fr_ret hq14
              · refine fr_if ?_ ?_
                · refine fr_bv (frX4_keepLate 3 ((q4.2.1 3 3) - 2) q4.2) hq4 (by first | exact sub_mem (by decide) | (refine sub_mem ?_; simp [WX4_keepLate, WX4_readFoes]; done) | (intro a9 j9 h9; simp [WX4_keepLate, inW] at h9; simp [WX4_readFoes, inW]; omega)) fun q7 hq7 => ?_
                  refine fr_bv (frX7_addFoes t1 q5 q6 q7) hq7 (by first | exact sub_mem (by decide) | (refine sub_mem ?_; simp [WX7_addFoes, WX4_readFoes]; done) | (intro a9 j9 h9; simp [WX7_addFoes, inW] at h9; simp [WX4_readFoes, inW]; omega)) fun q8 hq8 => ?_
                  exact fr_ret hq8
                · refine fr_bp fun q9 => ?_
                  refine fr_if ?_ ?_
                  · refine fr_bv (frX4_keepLate 3 ((q4.2.1 3 3) - 2) q4.2) hq4 (by first | exact sub_mem (by decide) | (refine sub_mem ?_; simp [WX4_keepLate, WX4_readFoes]; done) | (intro a9 j9 h9; simp [WX4_keepLate, inW] at h9; simp [WX4_readFoes, inW]; omega)) fun q11 hq11 => ?_
                    refine fr_bv (frX7_addFoes t1 q5 q6 q11) hq11 (by first | exact sub_mem (by decide) | (refine sub_mem ?_; simp [WX7_addFoes, WX4_readFoes]; done) | (intro a9 j9 h9; simp [WX7_addFoes, inW] at h9; simp [WX4_readFoes, inW]; omega)) fun q12 hq12 => ?_
                    exact fr_ret hq12
                  · refine fr_bv (frX7_addFoes t1 q5 q6 q4.2) hq4 (by first | exact sub_mem (by decide) | (refine sub_mem ?_; simp [WX7_addFoes, WX4_readFoes]; done) | (intro a9 j9 h9; simp [WX7_addFoes, inW] at h9; simp [WX4_readFoes, inW]; omega)) fun q10 hq10 => ?_
                    exact fr_ret hq10
          · exact fr_ret hq4
        · exact fr_ret hq3
      · exact fr_ret hq2
    · exact fr_ret hq1
  · refine fr_bm (frX4_fail 2 μ) hμ (by first | exact sub_mem (by decide) | (refine sub_mem ?_; simp [WX4_fail, WX4_readFoes]; done) | (intro a9 j9 h9; simp [WX4_fail, inW] at h9; simp [WX4_readFoes, inW]; omega)) fun q17 hq17 => ?_
    exact fr_ret hq17
set_option maxRecDepth 100000 in
theorem frX4_readUnit_j87 (rec : Nat → Int32 → Mem → Option (Bool × Mem)) (frec : ∀ (t : Nat) (a : Int32) (μ : Mem), FrO (WX4_readSum t) μ Prod.snd (rec t a μ)) (t1 : Nat)   (μ0 : Mem) (μ : Mem) (hμ : Fr (WX4_readSum t1) μ0 μ)  : FrO (WX4_readSum t1) μ0 Prod.snd (fX4_readUnit_j87 rec t1 μ) := by
  unfold fX4_readUnit_j87
  refine fr_bm (frX4_take 3 μ) hμ (by first | exact sub_mem (by decide) | (refine sub_mem ?_; simp [WX4_take, WX4_readSum]; done) | (intro a9 j9 h9; simp [WX4_take, inW] at h9; simp [WX4_readSum, inW]; omega)) fun q2 hq2 => ?_
  refine fr_if ?_ ?_
  · refine fr_bp fun q3 => ?_
    refine fr_bm (frX2_add t1 3 q3 q2.2) hq2 (by first | exact sub_mem (by decide) | (refine sub_mem ?_; simp [WX2_add, WX4_readSum]; done) | (intro a9 j9 h9; simp [WX2_add, inW] at h9; simp [WX4_readSum, inW]; omega)) fun q4 hq4 => ?_
    exact fr_ret hq4
  · exact fr_ret hq2
set_option maxRecDepth 100000 in
theorem frX4_readUnit_o (rec : Nat → Int32 → Mem → Option (Bool × Mem)) (frec : ∀ (t : Nat) (a : Int32) (μ : Mem), FrO (WX4_readSum t) μ Prod.snd (rec t a μ)) (t1 : Nat) (a2 : Int32) (μ : Mem) : FrO (WX4_readSum t1) μ Prod.snd (fX4_readUnit_o rec t1 a2 μ) := by
  suffices hh : ∀ μ0 : Mem, Fr (WX4_readSum t1) μ0 μ → FrO (WX4_readSum t1) μ0 Prod.snd (fX4_readUnit_o rec t1 a2 μ) from hh μ Fr.rfl
  intro μ0 hμ
  unfold fX4_readUnit_o
  refine fr_bp fun q1 => ?_
  refine fr_if ?_ ?_
  · refine fr_if ?_ ?_
    · refine fr_bm (frX4_take 11 μ) hμ (by first | exact sub_mem (by decide) | (refine sub_mem ?_; simp [WX4_take, WX4_readSum]; done) | (intro a9 j9 h9; simp [WX4_take, inW] at h9; simp [WX4_readSum, inW]; omega)) fun q7 hq7 => ?_
      refine fr_if ?_ ?_
      · refine fr_bm (frec t1 (a2 + 1) q7.2) hq7 (by first | exact sub_mem (by decide) | (refine sub_mem ?_; simp [WX4_readSum, WX4_readSum]; done) | (intro a9 j9 h9; simp [WX4_readSum, inW] at h9; simp [WX4_readSum, inW]; omega)) fun q8 hq8 => ?_
        refine fr_if ?_ ?_
        · refine fr_bm (frX4_take 12 q8.2) hq8 (by first | exact sub_mem (by decide) | (refine sub_mem ?_; simp [WX4_take, WX4_readSum]; done) | (intro a9 j9 h9; simp [WX4_take, inW] at h9; simp [WX4_readSum, inW]; omega)) fun q9 hq9 => ?_
          refine fr_if ?_ ?_
          · exact fr_ret hq9
          · exact fr_ret hq9
        · exact fr_ret hq8
      · exact fr_ret hq7
    · refine fr_bm (frX4_fail 2 μ) hμ (by first | exact sub_mem (by decide) | (refine sub_mem ?_; simp [WX4_fail, WX4_readSum]; done) | (intro a9 j9 h9; simp [WX4_fail, inW] at h9; simp [WX4_readSum, inW]; omega)) fun q10 hq10 => ?_
      exact fr_ret hq10
  · refine fr_if ?_ ?_
    · exact frX4_readUnit_j87 rec frec t1 μ0 μ hμ
    · refine fr_if ?_ ?_
      · exact frX4_readUnit_j87 rec frec t1 μ0 μ hμ
      · refine fr_bm (frX2_add t1 13 (q1 - 25) μ) hμ (by first | exact sub_mem (by decide) | (refine sub_mem ?_; simp [WX2_add, WX4_readSum]; done) | (intro a9 j9 h9; simp [WX2_add, inW] at h9; simp [WX4_readSum, inW]; omega)) fun q5 hq5 => ?_
        refine fr_bm (frX4_take q1 q5.2) hq5 (by first | exact sub_mem (by decide) | (refine sub_mem ?_; simp [WX4_take, WX4_readSum]; done) | (intro a9 j9 h9; simp [WX4_take, inW] at h9; simp [WX4_readSum, inW]; omega)) fun q6 hq6 => ?_
        exact fr_ret hq6
set_option maxRecDepth 100000 in
theorem frX4_readProduct_j38_13 (rec : Nat → Int32 → Mem → Option (Bool × Mem)) (frec : ∀ (t : Nat) (a : Int32) (μ : Mem), FrO (WX4_readSum t) μ Prod.snd (rec t a μ)) (t1 : Nat)  (v2 : Int32) (v3 : Int32) (μ0 : Mem) (μ : Mem) (hμ : Fr (WX4_readSum t1) μ0 μ) (KB : Int32 → Mem → Option (Bool × Mem)) (hB : ∀ (u3 : Int32) (um : Mem) (_ : Fr (WX4_readSum t1) μ0 um), FrO (WX4_readSum t1) μ0 Prod.snd (KB u3 um)) (K : Mem → Option (Bool × Mem)) (hK : ∀  (um : Mem) (_ : Fr (WX4_readSum t1) μ0 um), FrO (WX4_readSum t1) μ0 Prod.snd (K um)) : FrO (WX4_readSum t1) μ0 Prod.snd (fX4_readProduct_j38_13 rec t1 KB K v2 v3 μ) := by
  unfold fX4_readProduct_j38_13
  refine fr_bp fun q3 => ?_
  refine fr_bm (frX4_take q3 μ) hμ (by first | exact sub_mem (by decide) | (refine sub_mem ?_; simp [WX4_take, WX4_readSum]; done) | (intro a9 j9 h9; simp [WX4_take, inW] at h9; simp [WX4_readSum, inW]; omega)) fun q4 hq4 => ?_
  refine fr_if ?_ ?_
  · refine fr_bm (frec t1 v2 q4.2) hq4 (by first | exact sub_mem (by decide) | (refine sub_mem ?_; simp [WX4_readSum, WX4_readSum]; done) | (intro a9 j9 h9; simp [WX4_readSum, inW] at h9; simp [WX4_readSum, inW]; omega)) fun q5 hq5 => ?_
    refine fr_if ?_ ?_
    · refine fr_bm (frX2_add t1 q3 0 q5.2) hq5 (by first | exact sub_mem (by decide) | (refine sub_mem ?_; simp [WX2_add, WX4_readSum]; done) | (intro a9 j9 h9; simp [WX2_add, inW] at h9; simp [WX4_readSum, inW]; omega)) fun q6 hq6 => ?_
      exact hB (v3 + 1) q6.2 hq6
    · exact fr_ret hq5
  · exact fr_ret hq4
set_option maxRecDepth 100000 in
theorem frX4_readProduct_13 (rec : Nat → Int32 → Mem → Option (Bool × Mem)) (frec : ∀ (t : Nat) (a : Int32) (μ : Mem), FrO (WX4_readSum t) μ Prod.snd (rec t a μ)) (t1 : Nat)  (v2 : Int32) (μ0 : Mem)  (K : Mem → Option (Bool × Mem)) (hK : ∀  (μ : Mem) (_ : Fr (WX4_readSum t1) μ0 μ), FrO (WX4_readSum t1) μ0 Prod.snd (K μ)) : ∀ (n9 : Nat) (v3 : Int32) (μ : Mem) (_ : Fr (WX4_readSum t1) μ0 μ), FrO (WX4_readSum t1) μ0 Prod.snd (fX4_readProduct_13 rec t1 v2 K n9 v3 μ) := by
  intro n9
  induction n9 with
  | zero => intros; exact fr_none
  | succ n ih =>
    intro v3 μ hμ
    unfold fX4_readProduct_13
    refine fr_if ?_ ?_
    · refine fr_bp fun q2 => ?_
      refine fr_if ?_ ?_
      · exact frX4_readProduct_j38_13 rec frec t1 v2 v3 μ0 μ hμ _ (fun z0 zm hz => ih z0 zm hz) K hK
      · refine fr_bp fun q7 => ?_
        refine fr_if ?_ ?_
        · exact frX4_readProduct_j38_13 rec frec t1 v2 v3 μ0 μ hμ _ (fun z0 zm hz => ih z0 zm hz) K hK
        · exact hK μ hμ
    · exact hK μ hμ
set_option maxRecDepth 100000 in
theorem frX4_readProduct_o (rec : Nat → Int32 → Mem → Option (Bool × Mem)) (frec : ∀ (t : Nat) (a : Int32) (μ : Mem), FrO (WX4_readSum t) μ Prod.snd (rec t a μ)) (t1 : Nat) (a2 : Int32) (μ : Mem) : FrO (WX4_readSum t1) μ Prod.snd (fX4_readProduct_o rec t1 a2 μ) := by
  suffices hh : ∀ μ0 : Mem, Fr (WX4_readSum t1) μ0 μ → FrO (WX4_readSum t1) μ0 Prod.snd (fX4_readProduct_o rec t1 a2 μ) from hh μ Fr.rfl
  intro μ0 hμ
  unfold fX4_readProduct_o
  refine fr_bm (frec t1 a2 μ) hμ (by first | exact sub_mem (by decide) | (refine sub_mem ?_; simp [WX4_readSum, WX4_readSum]; done) | (intro a9 j9 h9; simp [WX4_readSum, inW] at h9; simp [WX4_readSum, inW]; omega)) fun q1 hq1 => ?_
  refine fr_if ?_ ?_
  · refine frX4_readProduct_13 rec frec t1 a2 μ0 _ (fun μ8 hμ8 => ?_) FU 0 q1.2 hq1
    exact fr_ret hμ8
  · exact fr_ret hq1
set_option maxRecDepth 100000 in
theorem frX4_readSum_j38_13 (rec : Nat → Int32 → Mem → Option (Bool × Mem)) (frec : ∀ (t : Nat) (a : Int32) (μ : Mem), FrO (WX4_readSum t) μ Prod.snd (rec t a μ)) (t1 : Nat)  (v2 : Int32) (v3 : Int32) (μ0 : Mem) (μ : Mem) (hμ : Fr (WX4_readSum t1) μ0 μ) (KB : Int32 → Mem → Option (Bool × Mem)) (hB : ∀ (u3 : Int32) (um : Mem) (_ : Fr (WX4_readSum t1) μ0 um), FrO (WX4_readSum t1) μ0 Prod.snd (KB u3 um)) (K : Mem → Option (Bool × Mem)) (hK : ∀  (um : Mem) (_ : Fr (WX4_readSum t1) μ0 um), FrO (WX4_readSum t1) μ0 Prod.snd (K um)) : FrO (WX4_readSum t1) μ0 Prod.snd (fX4_readSum_j38_13 rec t1 KB K v2 v3 μ) := by
  unfold fX4_readSum_j38_13
  refine fr_bp fun q3 => ?_
  refine fr_bm (frX4_take q3 μ) hμ (by first | exact sub_mem (by decide) | (refine sub_mem ?_; simp [WX4_take, WX4_readSum]; done) | (intro a9 j9 h9; simp [WX4_take, inW] at h9; simp [WX4_readSum, inW]; omega)) fun q4 hq4 => ?_
  refine fr_if ?_ ?_
  · refine fr_bm (frec t1 v2 q4.2) hq4 (by first | exact sub_mem (by decide) | (refine sub_mem ?_; simp [WX4_readSum, WX4_readSum]; done) | (intro a9 j9 h9; simp [WX4_readSum, inW] at h9; simp [WX4_readSum, inW]; omega)) fun q5 hq5 => ?_
    refine fr_if ?_ ?_
    · refine fr_bm (frX2_add t1 q3 0 q5.2) hq5 (by first | exact sub_mem (by decide) | (refine sub_mem ?_; simp [WX2_add, WX4_readSum]; done) | (intro a9 j9 h9; simp [WX2_add, inW] at h9; simp [WX4_readSum, inW]; omega)) fun q6 hq6 => ?_
      exact hB (v3 + 1) q6.2 hq6
    · exact fr_ret hq5
  · exact fr_ret hq4
set_option maxRecDepth 100000 in
theorem frX4_readSum_13 (rec : Nat → Int32 → Mem → Option (Bool × Mem)) (frec : ∀ (t : Nat) (a : Int32) (μ : Mem), FrO (WX4_readSum t) μ Prod.snd (rec t a μ)) (t1 : Nat)  (v2 : Int32) (μ0 : Mem)  (K : Mem → Option (Bool × Mem)) (hK : ∀  (μ : Mem) (_ : Fr (WX4_readSum t1) μ0 μ), FrO (WX4_readSum t1) μ0 Prod.snd (K μ)) : ∀ (n9 : Nat) (v3 : Int32) (μ : Mem) (_ : Fr (WX4_readSum t1) μ0 μ), FrO (WX4_readSum t1) μ0 Prod.snd (fX4_readSum_13 rec t1 v2 K n9 v3 μ) := by
  intro n9
  induction n9 with
  | zero => intros; exact fr_none
  | succ n ih =>
    intro v3 μ hμ
    unfold fX4_readSum_13
    refine fr_if ?_ ?_
    · refine fr_bp fun q2 => ?_
      refine fr_if ?_ ?_
      · exact frX4_readSum_j38_13 rec frec t1 v2 v3 μ0 μ hμ _ (fun z0 zm hz => ih z0 zm hz) K hK
      · refine fr_bp fun q7 => ?_
        refine fr_if ?_ ?_
        · exact frX4_readSum_j38_13 rec frec t1 v2 v3 μ0 μ hμ _ (fun z0 zm hz => ih z0 zm hz) K hK
        · exact hK μ hμ
    · exact hK μ hμ
set_option maxRecDepth 100000 in
theorem frX4_readSum_o (rec : Nat → Int32 → Mem → Option (Bool × Mem)) (frec : ∀ (t : Nat) (a : Int32) (μ : Mem), FrO (WX4_readSum t) μ Prod.snd (rec t a μ)) (t1 : Nat) (a2 : Int32) (μ : Mem) : FrO (WX4_readSum t1) μ Prod.snd (fX4_readSum_o rec t1 a2 μ) := by
  suffices hh : ∀ μ0 : Mem, Fr (WX4_readSum t1) μ0 μ → FrO (WX4_readSum t1) μ0 Prod.snd (fX4_readSum_o rec t1 a2 μ) from hh μ Fr.rfl
  intro μ0 hμ
  unfold fX4_readSum_o
  refine fr_bm (frec t1 a2 μ) hμ (by first | exact sub_mem (by decide) | (refine sub_mem ?_; simp [WX4_readSum, WX4_readSum]; done) | (intro a9 j9 h9; simp [WX4_readSum, inW] at h9; simp [WX4_readSum, inW]; omega)) fun q1 hq1 => ?_
  refine fr_if ?_ ?_
  · refine frX4_readSum_13 rec frec t1 a2 μ0 _ (fun μ8 hμ8 => ?_) FU 0 q1.2 hq1
    exact fr_ret hμ8
  · exact fr_ret hq1
theorem frRS : ∀ (k t : Nat) (a : Int32) (μ : Mem), FrO (WX4_readSum t) μ Prod.snd (fRS k t a μ) := by
  intro k
  induction k with
  | zero => intro t a μ; exact fr_none
  | succ k ih =>
    intro t a μ
    unfold fRS
    exact frX4_readSum_o _ (fun t a μ => frX4_readProduct_o _ (fun t a μ => frX4_readUnit_o _ (fun t a μ => ih t a μ) t a μ) t a μ) t a μ
theorem frX4_readSum (t1 : Nat) (a2 : Int32) (μ : Mem) : FrO (WX4_readSum t1) μ Prod.snd (fX4_readSum t1 a2 μ) := frRS 8 t1 a2 μ

def WX2_aimBehind (t0 : Nat) : List (Nat × Nat × Option Nat) := [((t0 + 2), 1, none)]
set_option maxRecDepth 100000 in
theorem frX2_aimBehind  (t0 : Nat) (a1 : Int32) (μ : Mem) : FrO (WX2_aimBehind t0) μ id (fX2_aimBehind t0 a1 μ) := by
  suffices hh : ∀ μ0 : Mem, Fr (WX2_aimBehind t0) μ0 μ → FrO (WX2_aimBehind t0) μ0 id (fX2_aimBehind t0 a1 μ) from hh μ Fr.rfl
  intro μ0 hμ
  unfold fX2_aimBehind
  refine fr_g (fr_wI hμ (by first | exact inw_n (by decide) | exact inw_s (by decide) | (simp [WX2_aimBehind, inW]; done) | (simp [WX2_aimBehind, inW]; omega)) fun μ1 hμ1 => ?_)
  exact fr_ret hμ1
def WX4_readLaw (t1 : Nat) : List (Nat × Nat × Option Nat) := [(3, 1, some 0), (3, 1, some 3), ((t1 + 3), 1, none), (t1, 1, some 3), ((t1 + 1), 1, none), ((t1 + 2), 1, none)]
set_option maxRecDepth 100000 in
theorem frX4_readLaw_28 (t1 : Nat)   (μ0 : Mem)  (K : Mem → Option (Bool × Mem)) (hK : ∀  (μ : Mem) (_ : Fr (WX4_readLaw t1) μ0 μ), FrO (WX4_readLaw t1) μ0 Prod.snd (K μ)) : ∀ (n9 : Nat) (v3 : Int32) (μ : Mem) (_ : Fr (WX4_readLaw t1) μ0 μ), FrO (WX4_readLaw t1) μ0 Prod.snd (fX4_readLaw_28 t1 K n9 v3 μ) := by
  intro n9
  induction n9 with
  | zero => intros; exact fr_none
  | succ n ih =>
    intro v3 μ hμ
    unfold fX4_readLaw_28
    refine fr_if ?_ ?_
    · exact hK μ hμ
    · refine fr_bp fun q4 => ?_
      refine fr_if ?_ ?_
      · refine fr_if ?_ ?_
        · refine fr_bm (frX4_fail 2 μ) hμ (by first | exact sub_mem (by decide) | (refine sub_mem ?_; simp [WX4_fail, WX4_readLaw]; done) | (intro a9 j9 h9; simp [WX4_fail, inW] at h9; simp [WX4_readLaw, inW]; omega)) fun q15 hq15 => ?_
          exact fr_ret hq15
        · refine fr_bm (frX4_take 22 μ) hμ (by first | exact sub_mem (by decide) | (refine sub_mem ?_; simp [WX4_take, WX4_readLaw]; done) | (intro a9 j9 h9; simp [WX4_take, inW] at h9; simp [WX4_readLaw, inW]; omega)) fun q5 hq5 => ?_
          refine fr_if ?_ ?_
          · refine fr_bm (frX4_readSum t1 0 q5.2) hq5 (by first | exact sub_mem (by decide) | (refine sub_mem ?_; simp [WX4_readSum, WX4_readLaw]; done) | (intro a9 j9 h9; simp [WX4_readSum, inW] at h9; simp [WX4_readLaw, inW]; omega)) fun q6 hq6 => ?_
            refine fr_if ?_ ?_
            · refine fr_bm (frX4_take 10 q6.2) hq6 (by first | exact sub_mem (by decide) | (refine sub_mem ?_; simp [WX4_take, WX4_readLaw]; done) | (intro a9 j9 h9; simp [WX4_take, inW] at h9; simp [WX4_readLaw, inW]; omega)) fun q7 hq7 => ?_
              refine fr_if ?_ ?_
              · refine fr_bm (frX4_readSum t1 0 q7.2) hq7 (by first | exact sub_mem (by decide) | (refine sub_mem ?_; simp [WX4_readSum, WX4_readLaw]; done) | (intro a9 j9 h9; simp [WX4_readSum, inW] at h9; simp [WX4_readLaw, inW]; omega)) fun q8 hq8 => ?_
                refine fr_if ?_ ?_
                · refine fr_bm (frX4_take 23 q8.2) hq8 (by first | exact sub_mem (by decide) | (refine sub_mem ?_; simp [WX4_take, WX4_readLaw]; done) | (intro a9 j9 h9; simp [WX4_take, inW] at h9; simp [WX4_readLaw, inW]; omega)) fun q9 hq9 => ?_
                  refine fr_if ?_ ?_
                  · refine fr_bm (frX2_add t1 10 0 q9.2) hq9 (by first | exact sub_mem (by decide) | (refine sub_mem ?_; simp [WX2_add, WX4_readLaw]; done) | (intro a9 j9 h9; simp [WX2_add, inW] at h9; simp [WX4_readLaw, inW]; omega)) fun q10 hq10 => ?_
                    refine fr_bm (frX4_readSum t1 0 q10.2) hq10 (by first | exact sub_mem (by decide) | (refine sub_mem ?_; simp [WX4_readSum, WX4_readLaw]; done) | (intro a9 j9 h9; simp [WX4_readSum, inW] at h9; simp [WX4_readLaw, inW]; omega)) fun q11 hq11 => ?_
                    refine fr_if ?_ ?_
                    · refine fr_bm (frX4_take 24 q11.2) hq11 (by first | exact sub_mem (by decide) | (refine sub_mem ?_; simp [WX4_take, WX4_readLaw]; done) | (intro a9 j9 h9; simp [WX4_take, inW] at h9; simp [WX4_readLaw, inW]; omega)) fun q12 hq12 => ?_
                      refine fr_if ?_ ?_
                      · refine fr_bm (frX2_add t1 0 0 q12.2) hq12 (by first | exact sub_mem (by decide) | (refine sub_mem ?_; simp [WX2_add, WX4_readLaw]; done) | (intro a9 j9 h9; simp [WX2_add, inW] at h9; simp [WX4_readLaw, inW]; omega)) fun q13 hq13 => ?_
                        refine fr_bv (frX2_aimBehind t1 q10.1 q13.2) hq13 (by first | exact sub_mem (by decide) | (refine sub_mem ?_; simp [WX2_aimBehind, WX4_readLaw]; done) | (intro a9 j9 h9; simp [WX2_aimBehind, inW] at h9; simp [WX4_readLaw, inW]; omega)) fun q14 hq14 => ?_
                        exact ih (v3 + 1) q14 hq14
                      · exact fr_ret hq12
                    · exact fr_ret hq11
                  · exact fr_ret hq9
                · exact fr_ret hq8
              · exact fr_ret hq7
            · exact fr_ret hq6
          · exact fr_ret hq5
      · exact hK μ hμ
set_option maxRecDepth 100000 in
theorem frX4_readLaw_j148 (t1 : Nat)   (μ0 : Mem) (μ : Mem) (hμ : Fr (WX4_readLaw t1) μ0 μ)  : FrO (WX4_readLaw t1) μ0 Prod.snd (fX4_readLaw_j148 t1 μ) := by
  unfold fX4_readLaw_j148
  refine fr_bm (frX4_readSum t1 0 μ) hμ (by first | exact sub_mem (by decide) | (refine sub_mem ?_; simp [WX4_readSum, WX4_readLaw]; done) | (intro a9 j9 h9; simp [WX4_readSum, inW] at h9; simp [WX4_readLaw, inW]; omega)) fun q17 hq17 => ?_
  refine fr_if ?_ ?_
  · refine fr_bm (frX4_take 4 q17.2) hq17 (by first | exact sub_mem (by decide) | (refine sub_mem ?_; simp [WX4_take, WX4_readLaw]; done) | (intro a9 j9 h9; simp [WX4_take, inW] at h9; simp [WX4_readLaw, inW]; omega)) fun q18 hq18 => ?_
    refine fr_if ?_ ?_
    · refine fr_bm (frX2_add t1 0 0 q18.2) hq18 (by first | exact sub_mem (by decide) | (refine sub_mem ?_; simp [WX2_add, WX4_readLaw]; done) | (intro a9 j9 h9; simp [WX2_add, inW] at h9; simp [WX4_readLaw, inW]; omega)) fun q19 hq19 => ?_
      exact fr_ret hq19
    · exact fr_ret hq18
  · exact fr_ret hq17
set_option maxRecDepth 100000 in
theorem frX4_readLaw  (t1 : Nat) (a2 : Int32) (μ : Mem) : FrO (WX4_readLaw t1) μ Prod.snd (fX4_readLaw t1 a2 μ) := by
  suffices hh : ∀ μ0 : Mem, Fr (WX4_readLaw t1) μ0 μ → FrO (WX4_readLaw t1) μ0 Prod.snd (fX4_readLaw t1 a2 μ) from hh μ Fr.rfl
  intro μ0 hμ
  unfold fX4_readLaw
  refine fr_bm (frX4_take (16 + a2) μ) hμ (by first | exact sub_mem (by decide) | (refine sub_mem ?_; simp [WX4_take, WX4_readLaw]; done) | (intro a9 j9 h9; simp [WX4_take, inW] at h9; simp [WX4_readLaw, inW]; omega)) fun q1 hq1 => ?_
  refine fr_if ?_ ?_
  · refine fr_bm (frX4_take 5 q1.2) hq1 (by first | exact sub_mem (by decide) | (refine sub_mem ?_; simp [WX4_take, WX4_readLaw]; done) | (intro a9 j9 h9; simp [WX4_take, inW] at h9; simp [WX4_readLaw, inW]; omega)) fun q2 hq2 => ?_
    refine fr_if ?_ ?_
    · refine fr_bv (frX2_startLaw t1 a2 q2.2) hq2 (by first | exact sub_mem (by decide) | (refine sub_mem ?_; simp [WX2_startLaw, WX4_readLaw]; done) | (intro a9 j9 h9; simp [WX2_startLaw, inW] at h9; simp [WX4_readLaw, inW]; omega)) fun q3 hq3 => ?_
      refine frX4_readLaw_28 t1 μ0 _ (fun μ16 hμ16 => ?_) FU 0 q3 hq3
      exact frX4_readLaw_j148 t1 μ0 μ16 hμ16
    · exact fr_ret hq2
  · exact fr_ret hq1
def WX4_readTell (t1 : Nat) : List (Nat × Nat × Option Nat) := [(3, 1, some 0), (3, 1, some 3), (3, 1, some 4), (3, 1, some 5), ((t1 + 14), 1, none), ((t1 + 1), 1, none), ((t1 + 2), 1, none), (t1, 1, some 0), ((t1 + 15), 1, none), ((t1 + 3), 1, none), ((t1 + 4), 1, none), ((t1 + 5), 1, none), ((t1 + 13), 1, none), (t1, 1, some 3), (t1, 1, some 7), (((t1 + 6) + 3), 1, none), ((t1 + 6), 1, some 3), (((t1 + 6) + 1), 1, none), (((t1 + 6) + 2), 1, none), (t1, 1, some 8), (t1, 1, some 9)]
set_option maxRecDepth 100000 in
theorem frX4_readTell_j66 (t1 : Nat)  (v2 : Int32) (μ0 : Mem) (μ : Mem) (hμ : Fr (WX4_readTell t1) μ0 μ)  : FrO (WX4_readTell t1) μ0 Prod.snd (fX4_readTell_j66 t1 v2 μ) := by
  unfold fX4_readTell_j66
  refine fr_if ?_ ?_
  · refine fr_bm (frX4_take v2 μ) hμ (by first | exact sub_mem (by decide) | (refine sub_mem ?_; simp [WX4_take, WX4_readTell]; done) | (intro a9 j9 h9; simp [WX4_take, inW] at h9; simp [WX4_readTell, inW]; omega)) fun q18 hq18 => ?_
    refine fr_if ?_ ?_
    · refine fr_bm (frX4_takeInt 1 999 q18.2) hq18 (by first | exact sub_mem (by decide) | (refine sub_mem ?_; simp [WX4_takeInt, WX4_readTell]; done) | (intro a9 j9 h9; simp [WX4_takeInt, inW] at h9; simp [WX4_readTell, inW]; omega)) fun q22 hq22 => ?_
      refine fr_if ?_ ?_
      · refine fr_bm (frX4_take 4 q22.2) hq22 (by first | exact sub_mem (by decide) | (refine sub_mem ?_; simp [WX4_take, WX4_readTell]; done) | (intro a9 j9 h9; simp [WX4_take, inW] at h9; simp [WX4_readTell, inW]; omega)) fun q26 hq26 => ?_
        refine fr_if ?_ ?_
        · refine fr_if ?_ ?_
          · refine fr_wI hq26 (by first | exact inw_n (by decide) | exact inw_s (by decide) | (simp [WX4_readTell, inW]; done) | (simp [WX4_readTell, inW]; omega)) fun μ30 hμ30 => ?_
            exact fr_ret hμ30
          · refine fr_bp fun q31 => ?_
            refine fr_wI hq26 (by first | exact inw_n (by decide) | exact inw_s (by decide) | (simp [WX4_readTell, inW]; done) | (simp [WX4_readTell, inW]; omega)) fun μ32 hμ32 => ?_
            exact fr_ret hμ32
        · refine fr_if ?_ ?_
          · refine fr_wI hq26 (by first | exact inw_n (by decide) | exact inw_s (by decide) | (simp [WX4_readTell, inW]; done) | (simp [WX4_readTell, inW]; omega)) fun μ27 hμ27 => ?_
            exact fr_ret hμ27
          · refine fr_bp fun q28 => ?_
            refine fr_wI hq26 (by first | exact inw_n (by decide) | exact inw_s (by decide) | (simp [WX4_readTell, inW]; done) | (simp [WX4_readTell, inW]; omega)) fun μ29 hμ29 => ?_
            exact fr_ret hμ29
      · refine fr_if ?_ ?_
        · refine fr_wI hq22 (by first | exact inw_n (by decide) | exact inw_s (by decide) | (simp [WX4_readTell, inW]; done) | (simp [WX4_readTell, inW]; omega)) fun μ23 hμ23 => ?_
          exact fr_ret hμ23
        · refine fr_bp fun q24 => ?_
          refine fr_wI hq22 (by first | exact inw_n (by decide) | exact inw_s (by decide) | (simp [WX4_readTell, inW]; done) | (simp [WX4_readTell, inW]; omega)) fun μ25 hμ25 => ?_
          exact fr_ret hμ25
    · refine fr_if ?_ ?_
      · refine fr_wI hq18 (by first | exact inw_n (by decide) | exact inw_s (by decide) | (simp [WX4_readTell, inW]; done) | (simp [WX4_readTell, inW]; omega)) fun μ19 hμ19 => ?_
        exact fr_ret hμ19
      · refine fr_bp fun q20 => ?_
        refine fr_wI hq18 (by first | exact inw_n (by decide) | exact inw_s (by decide) | (simp [WX4_readTell, inW]; done) | (simp [WX4_readTell, inW]; omega)) fun μ21 hμ21 => ?_
        exact fr_ret hμ21
  · refine fr_if ?_ ?_
    · refine fr_bm (frX4_take v2 μ) hμ (by first | exact sub_mem (by decide) | (refine sub_mem ?_; simp [WX4_take, WX4_readTell]; done) | (intro a9 j9 h9; simp [WX4_take, inW] at h9; simp [WX4_readTell, inW]; omega)) fun q3 hq3 => ?_
      refine fr_if ?_ ?_
      · refine fr_bm (frX4_takeInt 0 9999 q3.2) hq3 (by first | exact sub_mem (by decide) | (refine sub_mem ?_; simp [WX4_takeInt, WX4_readTell]; done) | (intro a9 j9 h9; simp [WX4_takeInt, inW] at h9; simp [WX4_readTell, inW]; omega)) fun q7 hq7 => ?_
        refine fr_if ?_ ?_
        · refine fr_bm (frX4_take 4 q7.2) hq7 (by first | exact sub_mem (by decide) | (refine sub_mem ?_; simp [WX4_take, WX4_readTell]; done) | (intro a9 j9 h9; simp [WX4_take, inW] at h9; simp [WX4_readTell, inW]; omega)) fun q11 hq11 => ?_
          refine fr_if ?_ ?_
          · refine fr_if ?_ ?_
            · refine fr_wI hq11 (by first | exact inw_n (by decide) | exact inw_s (by decide) | (simp [WX4_readTell, inW]; done) | (simp [WX4_readTell, inW]; omega)) fun μ15 hμ15 => ?_
              exact fr_ret hμ15
            · refine fr_bp fun q16 => ?_
              refine fr_wI hq11 (by first | exact inw_n (by decide) | exact inw_s (by decide) | (simp [WX4_readTell, inW]; done) | (simp [WX4_readTell, inW]; omega)) fun μ17 hμ17 => ?_
              exact fr_ret hμ17
          · refine fr_if ?_ ?_
            · refine fr_wI hq11 (by first | exact inw_n (by decide) | exact inw_s (by decide) | (simp [WX4_readTell, inW]; done) | (simp [WX4_readTell, inW]; omega)) fun μ12 hμ12 => ?_
              exact fr_ret hμ12
            · refine fr_bp fun q13 => ?_
              refine fr_wI hq11 (by first | exact inw_n (by decide) | exact inw_s (by decide) | (simp [WX4_readTell, inW]; done) | (simp [WX4_readTell, inW]; omega)) fun μ14 hμ14 => ?_
              exact fr_ret hμ14
        · refine fr_if ?_ ?_
          · refine fr_wI hq7 (by first | exact inw_n (by decide) | exact inw_s (by decide) | (simp [WX4_readTell, inW]; done) | (simp [WX4_readTell, inW]; omega)) fun μ8 hμ8 => ?_
            exact fr_ret hμ8
          · refine fr_bp fun q9 => ?_
            refine fr_wI hq7 (by first | exact inw_n (by decide) | exact inw_s (by decide) | (simp [WX4_readTell, inW]; done) | (simp [WX4_readTell, inW]; omega)) fun μ10 hμ10 => ?_
            exact fr_ret hμ10
      · refine fr_if ?_ ?_
        · refine fr_wI hq3 (by first | exact inw_n (by decide) | exact inw_s (by decide) | (simp [WX4_readTell, inW]; done) | (simp [WX4_readTell, inW]; omega)) fun μ4 hμ4 => ?_
          exact fr_ret hμ4
        · refine fr_bp fun q5 => ?_
          refine fr_wI hq3 (by first | exact inw_n (by decide) | exact inw_s (by decide) | (simp [WX4_readTell, inW]; done) | (simp [WX4_readTell, inW]; omega)) fun μ6 hμ6 => ?_
          exact fr_ret hμ6
    · refine fr_bm (frX4_fail 1 μ) hμ (by first | exact sub_mem (by decide) | (refine sub_mem ?_; simp [WX4_fail, WX4_readTell]; done) | (intro a9 j9 h9; simp [WX4_fail, inW] at h9; simp [WX4_readTell, inW]; omega)) fun q2 hq2 => ?_
      exact fr_ret hq2
set_option maxRecDepth 100000 in
theorem frX4_readTell  (t1 : Nat) (μ : Mem) : FrO (WX4_readTell t1) μ Prod.snd (fX4_readTell t1 μ) := by
  suffices hh : ∀ μ0 : Mem, Fr (WX4_readTell t1) μ0 μ → FrO (WX4_readTell t1) μ0 Prod.snd (fX4_readTell t1 μ) from hh μ Fr.rfl
  intro μ0 hμ
  unfold fX4_readTell
  refine fr_bp fun q1 => ?_
  refine fr_if ?_ ?_
  · refine fr_bm (frX4_readSunday t1 μ) hμ (by first | exact sub_mem (by decide) | (refine sub_mem ?_; simp [WX4_readSunday, WX4_readTell]; done) | (intro a9 j9 h9; simp [WX4_readSunday, inW] at h9; simp [WX4_readTell, inW]; omega)) fun q36 hq36 => ?_
    exact fr_ret hq36
  · refine fr_if ?_ ?_
    · refine fr_bm (frX4_readGuest t1 μ) hμ (by first | exact sub_mem (by decide) | (refine sub_mem ?_; simp [WX4_readGuest, WX4_readTell]; done) | (intro a9 j9 h9; simp [WX4_readGuest, inW] at h9; simp [WX4_readTell, inW]; omega)) fun q35 hq35 => ?_
      exact fr_ret hq35
    · refine fr_if ?_ ?_
      · refine fr_bm (frX4_readFoes t1 μ) hμ (by first | exact sub_mem (by decide) | (refine sub_mem ?_; simp [WX4_readFoes, WX4_readTell]; done) | (intro a9 j9 h9; simp [WX4_readFoes, inW] at h9; simp [WX4_readTell, inW]; omega)) fun q34 hq34 => ?_
        exact fr_ret hq34
      · refine fr_if ?_ ?_
        · exact frX4_readTell_j66 t1 q1 μ0 μ hμ
        · refine fr_if ?_ ?_
          · exact frX4_readTell_j66 t1 q1 μ0 μ hμ
          · refine fr_bm (frX4_readLaw (t1 + 6) (q1 - 16) μ) hμ (by first | exact sub_mem (by decide) | (refine sub_mem ?_; simp [WX4_readLaw, WX4_readTell]; done) | (intro a9 j9 h9; simp [WX4_readLaw, inW] at h9; simp [WX4_readTell, inW]; omega)) fun q33 hq33 => ?_
            exact fr_ret hq33
