def WX10_first : List (Nat × Nat × Option Nat) := [(13, 1, some 0), (13, 1, some 1), (13, 1, some 2), (13, 1, some 3), (14, 1, none), (15, 1, none), (16, 1, none), (181, 1, none), (182, 1, none)]
set_option maxRecDepth 100000 in
theorem frX10_first_23   (v1 : Int32) (μ0 : Mem)  (K : Mem → Option (Int32 × Mem)) (hK : ∀  (μ : Mem) (_ : Fr (WX10_first) μ0 μ), FrO (WX10_first) μ0 Prod.snd (K μ)) : ∀ (n9 : Nat) (v2 : Int32) (μ : Mem) (_ : Fr (WX10_first) μ0 μ), FrO (WX10_first) μ0 Prod.snd (fX10_first_23 v1 K n9 v2 μ) := by
  intro n9
  induction n9 with
  | zero => intros; exact fr_none
  | succ n ih =>
    intro v2 μ hμ
    unfold fX10_first_23
    refine fr_if ?_ ?_
    · exact hK μ hμ
    · refine fr_bp fun q3 => ?_
      refine fr_if ?_ ?_
      · refine fr_bv (frX1_passWeek 199 13 μ) hμ (by first | exact sub_mem (by decide) | (refine sub_mem ?_; simp [WX1_passWeek, WX10_first]; done) | (intro a9 j9 h9; simp [WX1_passWeek, inW] at h9; simp [WX10_first, inW]; omega)) fun q4 hq4 => ?_
        exact ih (v2 + 1) q4 hq4
      · refine fr_if ?_ ?_
        · exact fr_ret hμ
        · exact fr_ret hμ
set_option maxRecDepth 100000 in
theorem frX10_first  (a1 : Int32) (μ : Mem) : FrO (WX10_first) μ Prod.snd (fX10_first a1 μ) := by
  suffices hh : ∀ μ0 : Mem, Fr (WX10_first) μ0 μ → FrO (WX10_first) μ0 Prod.snd (fX10_first a1 μ) from hh μ Fr.rfl
  intro μ0 hμ
  unfold fX10_first
  refine fr_bp fun q1 => ?_
  refine fr_if ?_ ?_
  · refine fr_bv (frX5_copyFrom 13 9 μ) hμ (by first | exact sub_mem (by decide) | (refine sub_mem ?_; simp [WX5_copyFrom, WX10_first]; done) | (intro a9 j9 h9; simp [WX5_copyFrom, inW] at h9; simp [WX10_first, inW]; omega)) fun q2 hq2 => ?_
    refine frX10_first_23 a1 μ0 _ (fun μ5 hμ5 => ?_) FU 0 q2 hq2
    exact fr_ret hμ5
  · exact fr_ret hμ
def WX10_price : List (Nat × Nat × Option Nat) := [(13, 1, some 0), (13, 1, some 1), (13, 1, some 2), (13, 1, some 3), (14, 1, none), (15, 1, none), (16, 1, none), (181, 1, none), (182, 1, none)]
set_option maxRecDepth 100000 in
theorem frX10_price_42   (v1 : Int32) (v2 : Int32) (μ0 : Mem)  (K : Mem → Option (Int32 × Mem)) (hK : ∀  (μ : Mem) (_ : Fr (WX10_price) μ0 μ), FrO (WX10_price) μ0 Prod.snd (K μ)) : ∀ (n9 : Nat) (v3 : Int32) (μ : Mem) (_ : Fr (WX10_price) μ0 μ), FrO (WX10_price) μ0 Prod.snd (fX10_price_42 v1 v2 K n9 v3 μ) := by
  intro n9
  induction n9 with
  | zero => intros; exact fr_none
  | succ n ih =>
    intro v3 μ hμ
    unfold fX10_price_42
    refine fr_if ?_ ?_
    · refine fr_bv (frX1_passWeek 199 13 μ) hμ (by first | exact sub_mem (by decide) | (refine sub_mem ?_; simp [WX1_passWeek, WX10_price]; done) | (intro a9 j9 h9; simp [WX1_passWeek, inW] at h9; simp [WX10_price, inW]; omega)) fun q5 hq5 => ?_
      exact ih (v3 + 1) q5 hq5
    · exact hK μ hμ
set_option maxRecDepth 100000 in
theorem frX10_price  (a1 : Int32) (a2 : Int32) (μ : Mem) : FrO (WX10_price) μ Prod.snd (fX10_price a1 a2 μ) := by
  suffices hh : ∀ μ0 : Mem, Fr (WX10_price) μ0 μ → FrO (WX10_price) μ0 Prod.snd (fX10_price a1 a2 μ) from hh μ Fr.rfl
  intro μ0 hμ
  unfold fX10_price
  refine fr_bp fun q1 => ?_
  refine fr_if ?_ ?_
  · refine fr_bp fun q2 => ?_
    refine fr_if ?_ ?_
    · exact fr_ret hμ
    · refine fr_bp fun q3 => ?_
      refine fr_if ?_ ?_
      · refine fr_bv (frX5_copyFrom 13 9 μ) hμ (by first | exact sub_mem (by decide) | (refine sub_mem ?_; simp [WX5_copyFrom, WX10_price]; done) | (intro a9 j9 h9; simp [WX5_copyFrom, inW] at h9; simp [WX10_price, inW]; omega)) fun q4 hq4 => ?_
        refine frX10_price_42 a1 a2 μ0 _ (fun μ6 hμ6 => ?_) FU 0 q4 hq4
        refine fr_bm (frX1_ofSunday 3 199 13 a1 μ6) hμ6 (by first | exact sub_mem (by decide) | (refine sub_mem ?_; simp [WX1_ofSunday, WX10_price]; done) | (intro a9 j9 h9; simp [WX1_ofSunday, inW] at h9; simp [WX10_price, inW]; omega)) fun q7 hq7 => ?_
        exact fr_ret hq7
      · exact fr_ret hμ
  · exact fr_ret hμ
def WX10_best : List (Nat × Nat × Option Nat) := [(13, 1, some 0), (13, 1, some 1), (13, 1, some 2), (13, 1, some 3), (14, 1, none), (15, 1, none), (16, 1, none), (181, 1, none), (182, 1, none)]
set_option maxRecDepth 100000 in
theorem frX10_best_73   (v1 : Int32) (v2 : Int32) (v3 : Int32) (μ0 : Mem)  (K : Int32 → Int32 → Mem → Option (Int32 × Mem)) (hK : ∀ (v4 : Int32) (v5 : Int32) (μ : Mem) (_ : Fr (WX10_best) μ0 μ), FrO (WX10_best) μ0 Prod.snd (K v4 v5 μ)) : ∀ (n9 : Nat) (v4 : Int32) (v5 : Int32) (v6 : Int32) (μ : Mem) (_ : Fr (WX10_best) μ0 μ), FrO (WX10_best) μ0 Prod.snd (fX10_best_73 v1 v2 v3 K n9 v4 v5 v6 μ) := by
  intro n9
  induction n9 with
  | zero => intros; exact fr_none
  | succ n ih =>
    intro v4 v5 v6 μ hμ
    unfold fX10_best_73
    refine fr_if ?_ ?_
    · exact hK v4 v5 μ hμ
    · refine fr_bv (frX1_passWeek 199 13 μ) hμ (by first | exact sub_mem (by decide) | (refine sub_mem ?_; simp [WX1_passWeek, WX10_best]; done) | (intro a9 j9 h9; simp [WX1_passWeek, inW] at h9; simp [WX10_best, inW]; omega)) fun q7 hq7 => ?_
      refine fr_bm (frX1_ofSunday 3 199 13 v1 q7) hq7 (by first | exact sub_mem (by decide) | (refine sub_mem ?_; simp [WX1_ofSunday, WX10_best]; done) | (intro a9 j9 h9; simp [WX1_ofSunday, inW] at h9; simp [WX10_best, inW]; omega)) fun q8 hq8 => ?_
      refine fr_if ?_ ?_
      · exact ih v6 q8.1 (v6 + 1) q8.2 hq8
      · exact ih v4 v5 (v6 + 1) q8.2 hq8
set_option maxRecDepth 100000 in
theorem frX10_best  (a1 : Int32) (a2 : Int32) (a3 : Int32) (μ : Mem) : FrO (WX10_best) μ Prod.snd (fX10_best a1 a2 a3 μ) := by
  suffices hh : ∀ μ0 : Mem, Fr (WX10_best) μ0 μ → FrO (WX10_best) μ0 Prod.snd (fX10_best a1 a2 a3 μ) from hh μ Fr.rfl
  intro μ0 hμ
  unfold fX10_best
  refine fr_bp fun q1 => ?_
  refine fr_if ?_ ?_
  · refine fr_bp fun q2 => ?_
    refine fr_if ?_ ?_
    · exact fr_ret hμ
    · refine fr_bp fun q3 => ?_
      refine fr_if ?_ ?_
      · refine fr_bp fun q4 => ?_
        refine fr_if ?_ ?_
        · refine fr_bv (frX5_copyFrom 13 9 μ) hμ (by first | exact sub_mem (by decide) | (refine sub_mem ?_; simp [WX5_copyFrom, WX10_best]; done) | (intro a9 j9 h9; simp [WX5_copyFrom, inW] at h9; simp [WX10_best, inW]; omega)) fun q5 hq5 => ?_
          refine fr_bm (frX1_ofSunday 3 199 13 a1 q5) hq5 (by first | exact sub_mem (by decide) | (refine sub_mem ?_; simp [WX1_ofSunday, WX10_best]; done) | (intro a9 j9 h9; simp [WX1_ofSunday, inW] at h9; simp [WX10_best, inW]; omega)) fun q6 hq6 => ?_
          refine frX10_best_73 a1 a2 a3 μ0 _ (fun y9 y10 μ11 hμ11 => ?_) FU 0 q6.1 1 q6.2 hq6
          refine fr_if ?_ ?_
          · exact fr_ret hμ11
          · exact fr_ret hμ11
        · exact fr_ret hμ
      · exact fr_ret hμ
  · exact fr_ret hμ
def WX10_weary : List (Nat × Nat × Option Nat) := [(13, 1, some 0), (13, 1, some 1), (13, 1, some 2), (13, 1, some 3), (14, 1, none), (15, 1, none), (16, 1, none), (181, 1, none), (182, 1, none)]
set_option maxRecDepth 100000 in
theorem frX10_weary_23   (v1 : Int32) (μ0 : Mem)  (K : Mem → Option (Int32 × Mem)) (hK : ∀  (μ : Mem) (_ : Fr (WX10_weary) μ0 μ), FrO (WX10_weary) μ0 Prod.snd (K μ)) : ∀ (n9 : Nat) (v2 : Int32) (μ : Mem) (_ : Fr (WX10_weary) μ0 μ), FrO (WX10_weary) μ0 Prod.snd (fX10_weary_23 v1 K n9 v2 μ) := by
  intro n9
  induction n9 with
  | zero => intros; exact fr_none
  | succ n ih =>
    intro v2 μ hμ
    unfold fX10_weary_23
    refine fr_if ?_ ?_
    · exact hK μ hμ
    · refine fr_g ?_
      refine fr_if ?_ ?_
      · refine fr_bv (frX1_passWeek 199 13 μ) hμ (by first | exact sub_mem (by decide) | (refine sub_mem ?_; simp [WX1_passWeek, WX10_weary]; done) | (intro a9 j9 h9; simp [WX1_passWeek, inW] at h9; simp [WX10_weary, inW]; omega)) fun q3 hq3 => ?_
        exact ih (v2 + 1) q3 hq3
      · exact fr_ret hμ
set_option maxRecDepth 100000 in
theorem frX10_weary  (a1 : Int32) (μ : Mem) : FrO (WX10_weary) μ Prod.snd (fX10_weary a1 μ) := by
  suffices hh : ∀ μ0 : Mem, Fr (WX10_weary) μ0 μ → FrO (WX10_weary) μ0 Prod.snd (fX10_weary a1 μ) from hh μ Fr.rfl
  intro μ0 hμ
  unfold fX10_weary
  refine fr_bp fun q1 => ?_
  refine fr_if ?_ ?_
  · refine fr_bv (frX5_copyFrom 13 9 μ) hμ (by first | exact sub_mem (by decide) | (refine sub_mem ?_; simp [WX5_copyFrom, WX10_weary]; done) | (intro a9 j9 h9; simp [WX5_copyFrom, inW] at h9; simp [WX10_weary, inW]; omega)) fun q2 hq2 => ?_
    refine frX10_weary_23 a1 μ0 _ (fun μ4 hμ4 => ?_) FU 0 q2 hq2
    exact fr_ret hμ4
  · exact fr_ret hμ
def WX10_earned : List (Nat × Nat × Option Nat) := [(13, 1, some 0), (13, 1, some 1), (13, 1, some 2), (13, 1, some 3), (14, 1, none), (15, 1, none), (16, 1, none), (181, 1, none), (182, 1, none)]
set_option maxRecDepth 100000 in
theorem frX10_earned_23   (v1 : Int32) (μ0 : Mem)  (K : Mem → Option (Int32 × Mem)) (hK : ∀  (μ : Mem) (_ : Fr (WX10_earned) μ0 μ), FrO (WX10_earned) μ0 Prod.snd (K μ)) : ∀ (n9 : Nat) (v2 : Int32) (μ : Mem) (_ : Fr (WX10_earned) μ0 μ), FrO (WX10_earned) μ0 Prod.snd (fX10_earned_23 v1 K n9 v2 μ) := by
  intro n9
  induction n9 with
  | zero => intros; exact fr_none
  | succ n ih =>
    intro v2 μ hμ
    unfold fX10_earned_23
    refine fr_if ?_ ?_
    · refine fr_bv (frX1_passWeek 199 13 μ) hμ (by first | exact sub_mem (by decide) | (refine sub_mem ?_; simp [WX1_passWeek, WX10_earned]; done) | (intro a9 j9 h9; simp [WX1_passWeek, inW] at h9; simp [WX10_earned, inW]; omega)) fun q3 hq3 => ?_
      exact ih (v2 + 1) q3 hq3
    · exact hK μ hμ
set_option maxRecDepth 100000 in
theorem frX10_earned  (a1 : Int32) (μ : Mem) : FrO (WX10_earned) μ Prod.snd (fX10_earned a1 μ) := by
  suffices hh : ∀ μ0 : Mem, Fr (WX10_earned) μ0 μ → FrO (WX10_earned) μ0 Prod.snd (fX10_earned a1 μ) from hh μ Fr.rfl
  intro μ0 hμ
  unfold fX10_earned
  refine fr_bp fun q1 => ?_
  refine fr_if ?_ ?_
  · refine fr_bv (frX5_copyFrom 13 9 μ) hμ (by first | exact sub_mem (by decide) | (refine sub_mem ?_; simp [WX5_copyFrom, WX10_earned]; done) | (intro a9 j9 h9; simp [WX5_copyFrom, inW] at h9; simp [WX10_earned, inW]; omega)) fun q2 hq2 => ?_
    refine frX10_earned_23 a1 μ0 _ (fun μ4 hμ4 => ?_) FU 0 q2 hq2
    exact fr_ret hμ4
  · exact fr_ret hμ
def WX10_then : List (Nat × Nat × Option Nat) := [(13, 1, some 0), (13, 1, some 1), (13, 1, some 2), (13, 1, some 3), (14, 1, none), (15, 1, none), (16, 1, none), (181, 1, none), (182, 1, none)]
set_option maxRecDepth 100000 in
theorem frX10_then  (a1 : Int32) (a2 : Int32) (a3 : Int32) (μ : Mem) : FrO (WX10_then) μ Prod.snd (fX10_then a1 a2 a3 μ) := by
  suffices hh : ∀ μ0 : Mem, Fr (WX10_then) μ0 μ → FrO (WX10_then) μ0 Prod.snd (fX10_then a1 a2 a3 μ) from hh μ Fr.rfl
  intro μ0 hμ
  unfold fX10_then
  refine fr_bp fun q1 => ?_
  refine fr_if ?_ ?_
  · refine fr_bp fun q2 => ?_
    refine fr_if ?_ ?_
    · refine fr_if ?_ ?_
      · exact fr_ret hμ
      · refine fr_if ?_ ?_
        · exact fr_ret hμ
        · refine fr_bv (frX5_copyFrom 13 9 μ) hμ (by first | exact sub_mem (by decide) | (refine sub_mem ?_; simp [WX5_copyFrom, WX10_then]; done) | (intro a9 j9 h9; simp [WX5_copyFrom, inW] at h9; simp [WX10_then, inW]; omega)) fun q3 hq3 => ?_
          refine fr_bv (frX1_passDeadlyWeeks 199 13 a2 (q3.1 199 9) q3) hq3 (by first | exact sub_mem (by decide) | (refine sub_mem ?_; simp [WX1_passDeadlyWeeks, WX10_then]; done) | (intro a9 j9 h9; simp [WX1_passDeadlyWeeks, inW] at h9; simp [WX10_then, inW]; omega)) fun q4 hq4 => ?_
          refine fr_if ?_ ?_
          · refine fr_bp fun q6 => ?_
            exact fr_ret hq4
          · refine fr_if ?_ ?_
            · refine fr_g ?_
              exact fr_ret hq4
            · refine fr_bp fun q5 => ?_
              refine fr_if ?_ ?_
              · exact fr_ret hq4
              · exact fr_ret hq4
    · exact fr_ret hμ
  · exact fr_ret hμ
def WX10_wornIn : List (Nat × Nat × Option Nat) := [(13, 1, some 0), (13, 1, some 1), (13, 1, some 2), (13, 1, some 3), (14, 1, none), (15, 1, none), (16, 1, none), (181, 1, none), (182, 1, none)]
set_option maxRecDepth 100000 in
theorem frX10_wornIn  (a1 : Int32) (a2 : Int32) (μ : Mem) : FrO (WX10_wornIn) μ Prod.snd (fX10_wornIn a1 a2 μ) := by
  suffices hh : ∀ μ0 : Mem, Fr (WX10_wornIn) μ0 μ → FrO (WX10_wornIn) μ0 Prod.snd (fX10_wornIn a1 a2 μ) from hh μ Fr.rfl
  intro μ0 hμ
  unfold fX10_wornIn
  refine fr_bp fun q1 => ?_
  refine fr_if ?_ ?_
  · refine fr_bp fun q2 => ?_
    refine fr_if ?_ ?_
    · refine fr_bv (frX5_copyFrom 13 9 μ) hμ (by first | exact sub_mem (by decide) | (refine sub_mem ?_; simp [WX5_copyFrom, WX10_wornIn]; done) | (intro a9 j9 h9; simp [WX5_copyFrom, inW] at h9; simp [WX10_wornIn, inW]; omega)) fun q3 hq3 => ?_
      refine fr_bv (frX1_passDeadlyWeeks 199 13 a2 (q3.1 199 9) q3) hq3 (by first | exact sub_mem (by decide) | (refine sub_mem ?_; simp [WX1_passDeadlyWeeks, WX10_wornIn]; done) | (intro a9 j9 h9; simp [WX1_passDeadlyWeeks, inW] at h9; simp [WX10_wornIn, inW]; omega)) fun q4 hq4 => ?_
      refine fr_g ?_
      exact fr_ret hq4
    · exact fr_ret hμ
  · exact fr_ret hμ
def WX10_year : List (Nat × Nat × Option Nat) := [(13, 1, some 0), (13, 1, some 1), (13, 1, some 2), (13, 1, some 3), (14, 1, none), (15, 1, none), (16, 1, none), (181, 1, none), (182, 1, none)]
set_option maxRecDepth 100000 in
theorem frX10_year_35   (v1 : Int32) (v2 : Int32) (v3 : Int32) (μ0 : Mem)  (K : Int32 → Mem → Option (Int32 × Mem)) (hK : ∀ (v4 : Int32) (μ : Mem) (_ : Fr (WX10_year) μ0 μ), FrO (WX10_year) μ0 Prod.snd (K v4 μ)) : ∀ (n9 : Nat) (v4 : Int32) (v5 : Int32) (μ : Mem) (_ : Fr (WX10_year) μ0 μ), FrO (WX10_year) μ0 Prod.snd (fX10_year_35 v1 v2 v3 K n9 v4 v5 μ) := by
  intro n9
  induction n9 with
  | zero => intros; exact fr_none
  | succ n ih =>
    intro v4 v5 μ hμ
    unfold fX10_year_35
    refine fr_if ?_ ?_
    · refine fr_bv (frX5_copyFrom 13 9 μ) hμ (by first | exact sub_mem (by decide) | (refine sub_mem ?_; simp [WX5_copyFrom, WX10_year]; done) | (intro a9 j9 h9; simp [WX5_copyFrom, inW] at h9; simp [WX10_year, inW]; omega)) fun q3 hq3 => ?_
      refine fr_bv (frX1_passDeadlyWeeks 199 13 v2 ((q3.1 199 9) + v5) q3) hq3 (by first | exact sub_mem (by decide) | (refine sub_mem ?_; simp [WX1_passDeadlyWeeks, WX10_year]; done) | (intro a9 j9 h9; simp [WX1_passDeadlyWeeks, inW] at h9; simp [WX10_year, inW]; omega)) fun q4 hq4 => ?_
      refine fr_bp fun q5 => ?_
      refine fr_if ?_ ?_
      · exact ih v4 (v5 + 1) q4 hq4
      · exact ih (v4 + 1) (v5 + 1) q4 hq4
    · exact hK v4 μ hμ
set_option maxRecDepth 100000 in
theorem frX10_year  (a1 : Int32) (a2 : Int32) (a3 : Int32) (μ : Mem) : FrO (WX10_year) μ Prod.snd (fX10_year a1 a2 a3 μ) := by
  suffices hh : ∀ μ0 : Mem, Fr (WX10_year) μ0 μ → FrO (WX10_year) μ0 Prod.snd (fX10_year a1 a2 a3 μ) from hh μ Fr.rfl
  intro μ0 hμ
  unfold fX10_year
  refine fr_bp fun q1 => ?_
  refine fr_if ?_ ?_
  · refine fr_bp fun q2 => ?_
    refine fr_if ?_ ?_
    · refine fr_if ?_ ?_
      · exact fr_ret hμ
      · refine fr_if ?_ ?_
        · exact fr_ret hμ
        · refine frX10_year_35 a1 a2 a3 μ0 _ (fun y6 μ7 hμ7 => ?_) FU 0 0 μ hμ
          exact fr_ret hμ7
    · exact fr_ret hμ
  · exact fr_ret hμ
def WX0_add : List (Nat × Nat × Option Nat) := [(197, 1, none), (198, 1, none), (196, 1, some 0)]
set_option maxRecDepth 100000 in
theorem frX0_add  (a1 : Int32) (a2 : Int32) (μ : Mem) : FrO (WX0_add) μ Prod.snd (fX0_add a1 a2 μ) := by
  suffices hh : ∀ μ0 : Mem, Fr (WX0_add) μ0 μ → FrO (WX0_add) μ0 Prod.snd (fX0_add a1 a2 μ) from hh μ Fr.rfl
  intro μ0 hμ
  unfold fX0_add
  refine fr_if ?_ ?_
  · refine fr_g (fr_wI hμ (inw_n (by decide)) fun μ1 hμ1 => ?_)
    refine fr_g (fr_wI hμ1 (inw_n (by decide)) fun μ2 hμ2 => ?_)
    refine fr_wI hμ2 (inw_s (by decide)) fun μ3 hμ3 => ?_
    exact fr_ret hμ3
  · exact fr_ret hμ
def WX10_tell : List (Nat × Nat × Option Nat) := [(197, 1, none), (198, 1, none), (196, 1, some 0)]
set_option maxRecDepth 100000 in
theorem frX10_tell  (a1 : Int32) (a2 : Int32) (μ : Mem) : FrO (WX10_tell) μ Prod.snd (fX10_tell a1 a2 μ) := by
  suffices hh : ∀ μ0 : Mem, Fr (WX10_tell) μ0 μ → FrO (WX10_tell) μ0 Prod.snd (fX10_tell a1 a2 μ) from hh μ Fr.rfl
  intro μ0 hμ
  unfold fX10_tell
  refine fr_if ?_ ?_
  · exact fr_ret hμ
  · refine fr_if ?_ ?_
    · refine fr_if ?_ ?_
      · refine fr_bm (frX0_add a1 a2 μ) hμ (by first | exact sub_mem (by decide) | (refine sub_mem ?_; simp [WX0_add, WX10_tell]; done) | (intro a9 j9 h9; simp [WX0_add, inW] at h9; simp [WX10_tell, inW]; omega)) fun q1 hq1 => ?_
        exact fr_ret hq1
      · exact fr_ret hμ
    · exact fr_ret hμ
def WX10_forget : List (Nat × Nat × Option Nat) := [(196, 1, some 0)]
set_option maxRecDepth 100000 in
theorem frX10_forget   (μ : Mem) : FrO (WX10_forget) μ Prod.snd (fX10_forget  μ) := by
  suffices hh : ∀ μ0 : Mem, Fr (WX10_forget) μ0 μ → FrO (WX10_forget) μ0 Prod.snd (fX10_forget  μ) from hh μ Fr.rfl
  intro μ0 hμ
  unfold fX10_forget
  refine fr_wI hμ (inw_s (by decide)) fun μ1 hμ1 => ?_
  exact fr_ret hμ1
def WX10_hold : List (Nat × Nat × Option Nat) := [(231, 12, none), (0, 1, some 11)]
set_option maxRecDepth 100000 in
theorem frX10_hold  (a1 : Int32) (μ : Mem) : FrO (WX10_hold) μ Prod.snd (fX10_hold a1 μ) := by
  suffices hh : ∀ μ0 : Mem, Fr (WX10_hold) μ0 μ → FrO (WX10_hold) μ0 Prod.snd (fX10_hold a1 μ) from hh μ Fr.rfl
  intro μ0 hμ
  unfold fX10_hold
  refine fr_if ?_ ?_
  · exact fr_ret hμ
  · refine fr_if ?_ ?_
    · refine fr_gh fun hi1 => ?_
      have ehi1 := inb_lt hi1
      refine fr_bv (frX5_copyFrom (231 + 4 * a1.toNatClampNeg) 9 μ) hμ (by first | exact sub_mem (by decide) | (refine sub_mem ?_; simp [WX5_copyFrom, WX10_hold]; done) | (intro a9 j9 h9; simp [WX5_copyFrom, inW] at h9; simp [WX10_hold, inW]; omega)) fun q2 hq2 => ?_
      refine fr_wI hq2 (inw_s (by decide)) fun μ3 hμ3 => ?_
      exact fr_ret hμ3
    · exact fr_ret hμ
def WX10_restore : List (Nat × Nat × Option Nat) := [(9, 1, some 0), (9, 1, some 1), (9, 1, some 2), (9, 1, some 3), (10, 1, none), (11, 1, none), (12, 1, none), (17, 1, some 0)]
set_option maxRecDepth 100000 in
theorem frX10_restore  (a1 : Int32) (μ : Mem) : FrO (WX10_restore) μ Prod.snd (fX10_restore a1 μ) := by
  suffices hh : ∀ μ0 : Mem, Fr (WX10_restore) μ0 μ → FrO (WX10_restore) μ0 Prod.snd (fX10_restore a1 μ) from hh μ Fr.rfl
  intro μ0 hμ
  unfold fX10_restore
  refine fr_if ?_ ?_
  · exact fr_ret hμ
  · refine fr_if ?_ ?_
    · refine fr_if ?_ ?_
      · exact fr_ret hμ
      · refine fr_gh fun hi1 => ?_
        have ehi1 := inb_lt hi1
        refine fr_bv (frX5_copyFrom 9 (231 + 4 * a1.toNatClampNeg) μ) hμ (by first | exact sub_mem (by decide) | (refine sub_mem ?_; simp [WX5_copyFrom, WX10_restore]; done) | (intro a9 j9 h9; simp [WX5_copyFrom, inW] at h9; simp [WX10_restore, inW]; omega)) fun q2 hq2 => ?_
        refine fr_wI hq2 (inw_s (by decide)) fun μ3 hμ3 => ?_
        exact fr_ret hμ3
    · exact fr_ret hμ
def WX10_moneyDue : List (Nat × Nat × Option Nat) := [(181, 1, none), (182, 1, none)]
set_option maxRecDepth 100000 in
theorem frX10_moneyDue_4    (μ0 : Mem)  (K : Int32 → Mem → Option (Int32 × Mem)) (hK : ∀ (v1 : Int32) (μ : Mem) (_ : Fr (WX10_moneyDue) μ0 μ), FrO (WX10_moneyDue) μ0 Prod.snd (K v1 μ)) : ∀ (n9 : Nat) (v1 : Int32) (v2 : Int32) (μ : Mem) (_ : Fr (WX10_moneyDue) μ0 μ), FrO (WX10_moneyDue) μ0 Prod.snd (fX10_moneyDue_4 K n9 v1 v2 μ) := by
  intro n9
  induction n9 with
  | zero => intros; exact fr_none
  | succ n ih =>
    intro v1 v2 μ hμ
    unfold fX10_moneyDue_4
    refine fr_if ?_ ?_
    · refine fr_bm (frX1_ofGuestNow 0 199 9 v2 μ) hμ (by first | exact sub_mem (by decide) | (refine sub_mem ?_; simp [WX1_ofGuestNow, WX10_moneyDue]; done) | (intro a9 j9 h9; simp [WX1_ofGuestNow, inW] at h9; simp [WX10_moneyDue, inW]; omega)) fun q1 hq1 => ?_
      exact ih (v1 + q1.1) (v2 + 1) q1.2 hq1
    · exact hK v1 μ hμ
set_option maxRecDepth 100000 in
theorem frX10_moneyDue   (μ : Mem) : FrO (WX10_moneyDue) μ Prod.snd (fX10_moneyDue  μ) := by
  suffices hh : ∀ μ0 : Mem, Fr (WX10_moneyDue) μ0 μ → FrO (WX10_moneyDue) μ0 Prod.snd (fX10_moneyDue  μ) from hh μ Fr.rfl
  intro μ0 hμ
  unfold fX10_moneyDue
  refine frX10_moneyDue_4 μ0 _ (fun y2 μ3 hμ3 => ?_) FU 0 0 μ hμ
  exact fr_ret hμ3
def WX10_count : List (Nat × Nat × Option Nat) := [(181, 1, none), (182, 1, none)]
set_option maxRecDepth 100000 in
theorem frX10_count  (a1 : Int32) (μ : Mem) : FrO (WX10_count) μ Prod.snd (fX10_count a1 μ) := by
  suffices hh : ∀ μ0 : Mem, Fr (WX10_count) μ0 μ → FrO (WX10_count) μ0 Prod.snd (fX10_count a1 μ) from hh μ Fr.rfl
  intro μ0 hμ
  unfold fX10_count
  refine fr_if ?_ ?_
  · exact fr_ret hμ
  · refine fr_if ?_ ?_
    · exact fr_ret hμ
    · refine fr_if ?_ ?_
      · exact fr_ret hμ
      · refine fr_if ?_ ?_
        · exact fr_ret hμ
        · refine fr_if ?_ ?_
          · refine fr_bp fun q6 => ?_
            exact fr_ret hμ
          · refine fr_if ?_ ?_
            · exact fr_ret hμ
            · refine fr_if ?_ ?_
              · exact fr_ret hμ
              · refine fr_if ?_ ?_
                · refine fr_bm (frX10_moneyDue μ) hμ (by first | exact sub_mem (by decide) | (refine sub_mem ?_; simp [WX10_moneyDue, WX10_count]; done) | (intro a9 j9 h9; simp [WX10_moneyDue, inW] at h9; simp [WX10_count, inW]; omega)) fun q10 hq10 => ?_
                  exact fr_ret hq10
                · refine fr_if ?_ ?_
                  · exact fr_ret hμ
                  · refine fr_if ?_ ?_
                    · exact fr_ret hμ
                    · refine fr_if ?_ ?_
                      · exact fr_ret hμ
                      · refine fr_if ?_ ?_
                        · refine fr_bp fun q15 => ?_
                          exact fr_ret hμ
                        · refine fr_if ?_ ?_
                          · refine fr_bp fun q17 => ?_
                            exact fr_ret hμ
                          · refine fr_if ?_ ?_
                            · refine fr_bp fun q19 => ?_
                              exact fr_ret hμ
                            · refine fr_if ?_ ?_
                              · refine fr_bp fun q21 => ?_
                                exact fr_ret hμ
                              · refine fr_if ?_ ?_
                                · refine fr_bp fun q23 => ?_
                                  exact fr_ret hμ
                                · refine fr_if ?_ ?_
                                  · refine fr_bp fun q25 => ?_
                                    exact fr_ret hμ
                                  · refine fr_if ?_ ?_
                                    · refine fr_bp fun q27 => ?_
                                      exact fr_ret hμ
                                    · refine fr_if ?_ ?_
                                      · refine fr_bp fun q29 => ?_
                                        exact fr_ret hμ
                                      · exact fr_ret hμ
def WX11_plain : List (Nat × Nat × Option Nat) := [(253, 1, none), (256, 1, none), (261, 1, none), (262, 1, none), (263, 1, none), (260, 1, none), (264, 1, none), (265, 1, none)]
set_option maxRecDepth 100000 in
theorem frX11_plain_38   (v1 : Int32) (μ0 : Mem)  (K : Mem → Option (Mem)) (hK : ∀  (μ : Mem) (_ : Fr (WX11_plain) μ0 μ), FrO (WX11_plain) μ0 id (K μ)) : ∀ (n9 : Nat) (v2 : Int32) (μ : Mem) (_ : Fr (WX11_plain) μ0 μ), FrO (WX11_plain) μ0 id (fX11_plain_38 v1 K n9 v2 μ) := by
  intro n9
  induction n9 with
  | zero => intros; exact fr_none
  | succ n ih =>
    intro v2 μ hμ
    unfold fX11_plain_38
    refine fr_if ?_ ?_
    · refine fr_g (fr_wI hμ (inw_n (by decide)) fun μ6 hμ6 => ?_)
      exact ih (v2 + 1) μ6 hμ6
    · exact hK μ hμ
set_option maxRecDepth 100000 in
theorem frX11_plain_64   (v1 : Int32) (μ0 : Mem)  (K : Mem → Option (Mem)) (hK : ∀  (μ : Mem) (_ : Fr (WX11_plain) μ0 μ), FrO (WX11_plain) μ0 id (K μ)) : ∀ (n9 : Nat) (v2 : Int32) (μ : Mem) (_ : Fr (WX11_plain) μ0 μ), FrO (WX11_plain) μ0 id (fX11_plain_64 v1 K n9 v2 μ) := by
  intro n9
  induction n9 with
  | zero => intros; exact fr_none
  | succ n ih =>
    intro v2 μ hμ
    unfold fX11_plain_64
    refine fr_if ?_ ?_
    · refine fr_g (fr_wI hμ (inw_n (by decide)) fun μ8 hμ8 => ?_)
      refine fr_g (fr_wI hμ8 (inw_n (by decide)) fun μ9 hμ9 => ?_)
      exact ih (v2 + 1) μ9 hμ9
    · exact hK μ hμ
set_option maxRecDepth 100000 in
theorem frX11_plain  (a1 : Int32) (μ : Mem) : FrO (WX11_plain) μ id (fX11_plain a1 μ) := by
  suffices hh : ∀ μ0 : Mem, Fr (WX11_plain) μ0 μ → FrO (WX11_plain) μ0 id (fX11_plain a1 μ) from hh μ Fr.rfl
  intro μ0 hμ
  unfold fX11_plain
  refine fr_g (fr_wI hμ (inw_n (by decide)) fun μ1 hμ1 => ?_)
  refine fr_g (fr_wI hμ1 (inw_n (by decide)) fun μ2 hμ2 => ?_)
  refine fr_g (fr_wI hμ2 (inw_n (by decide)) fun μ3 hμ3 => ?_)
  refine fr_g (fr_wI hμ3 (inw_n (by decide)) fun μ4 hμ4 => ?_)
  refine fr_g (fr_wI hμ4 (inw_n (by decide)) fun μ5 hμ5 => ?_)
  refine frX11_plain_38 a1 μ0 _ (fun μ7 hμ7 => ?_) FU 0 μ5 hμ5
  refine frX11_plain_64 a1 μ0 _ (fun μ10 hμ10 => ?_) FU 0 μ7 hμ7
  exact fr_ret hμ10
def WX11_begins : List (Nat × Nat × Option Nat) := [(277, 1, none), (243, 1, some 52), (243, 1, some 53)]
set_option maxRecDepth 100000 in
theorem frX11_begins_2    (μ0 : Mem)  (K : Mem → Option (Mem)) (hK : ∀  (μ : Mem) (_ : Fr (WX11_begins) μ0 μ), FrO (WX11_begins) μ0 id (K μ)) : ∀ (n9 : Nat) (v1 : Int32) (μ : Mem) (_ : Fr (WX11_begins) μ0 μ), FrO (WX11_begins) μ0 id (fX11_begins_2 K n9 v1 μ) := by
  intro n9
  induction n9 with
  | zero => intros; exact fr_none
  | succ n ih =>
    intro v1 μ hμ
    unfold fX11_begins_2
    refine fr_if ?_ ?_
    · refine fr_g (fr_wI hμ (inw_n (by decide)) fun μ1 hμ1 => ?_)
      exact ih (v1 + 1) μ1 hμ1
    · exact hK μ hμ
set_option maxRecDepth 100000 in
theorem frX11_begins_23    (μ0 : Mem)  (K : Mem → Option (Mem)) (hK : ∀  (μ : Mem) (_ : Fr (WX11_begins) μ0 μ), FrO (WX11_begins) μ0 id (K μ)) : ∀ (n9 : Nat) (v1 : Int32) (μ : Mem) (_ : Fr (WX11_begins) μ0 μ), FrO (WX11_begins) μ0 id (fX11_begins_23 K n9 v1 μ) := by
  intro n9
  induction n9 with
  | zero => intros; exact fr_none
  | succ n ih =>
    intro v1 μ hμ
    unfold fX11_begins_23
    refine fr_if ?_ ?_
    · refine fr_g (fr_wI hμ (inw_n (by decide)) fun μ3 hμ3 => ?_)
      exact ih (v1 + 1) μ3 hμ3
    · exact hK μ hμ
set_option maxRecDepth 100000 in
theorem frX11_begins   (μ : Mem) : FrO (WX11_begins) μ id (fX11_begins  μ) := by
  suffices hh : ∀ μ0 : Mem, Fr (WX11_begins) μ0 μ → FrO (WX11_begins) μ0 id (fX11_begins  μ) from hh μ Fr.rfl
  intro μ0 hμ
  unfold fX11_begins
  refine frX11_begins_2 μ0 _ (fun μ2 hμ2 => ?_) FU 0 μ hμ
  refine frX11_begins_23 μ0 _ (fun μ4 hμ4 => ?_) FU 0 μ2 hμ2
  refine fr_g ?_
  refine fr_wI hμ4 (inw_s (by decide)) fun μ5 hμ5 => ?_
  refine fr_wI hμ5 (inw_s (by decide)) fun μ6 hμ6 => ?_
  exact fr_ret hμ6
def WX11_keepsRow : List (Nat × Nat × Option Nat) := [(276, 1, none)]
set_option maxRecDepth 100000 in
theorem frX11_keepsRow_2    (μ0 : Mem)  (K : Mem → Option (Mem)) (hK : ∀  (μ : Mem) (_ : Fr (WX11_keepsRow) μ0 μ), FrO (WX11_keepsRow) μ0 id (K μ)) : ∀ (n9 : Nat) (v1 : Int32) (μ : Mem) (_ : Fr (WX11_keepsRow) μ0 μ), FrO (WX11_keepsRow) μ0 id (fX11_keepsRow_2 K n9 v1 μ) := by
  intro n9
  induction n9 with
  | zero => intros; exact fr_none
  | succ n ih =>
    intro v1 μ hμ
    unfold fX11_keepsRow_2
    refine fr_if ?_ ?_
    · refine fr_g ?_
      refine fr_g (fr_wI hμ (inw_n (by decide)) fun μ1 hμ1 => ?_)
      exact ih (v1 + 1) μ1 hμ1
    · exact hK μ hμ
set_option maxRecDepth 100000 in
theorem frX11_keepsRow   (μ : Mem) : FrO (WX11_keepsRow) μ id (fX11_keepsRow  μ) := by
  suffices hh : ∀ μ0 : Mem, Fr (WX11_keepsRow) μ0 μ → FrO (WX11_keepsRow) μ0 id (fX11_keepsRow  μ) from hh μ Fr.rfl
  intro μ0 hμ
  unfold fX11_keepsRow
  refine frX11_keepsRow_2 μ0 _ (fun μ2 hμ2 => ?_) FU 0 μ hμ
  exact fr_ret hμ2
def WX11_put : List (Nat × Nat × Option Nat) := [(244, 1, none), (243, 1, some 2)]
set_option maxRecDepth 100000 in
theorem frX11_put_3   (v1 : Int32) (μ0 : Mem)  (K : Mem → Option (Mem)) (hK : ∀  (μ : Mem) (_ : Fr (WX11_put) μ0 μ), FrO (WX11_put) μ0 id (K μ)) : ∀ (n9 : Nat) (v2 : Int32) (μ : Mem) (_ : Fr (WX11_put) μ0 μ), FrO (WX11_put) μ0 id (fX11_put_3 v1 K n9 v2 μ) := by
  intro n9
  induction n9 with
  | zero => intros; exact fr_none
  | succ n ih =>
    intro v2 μ hμ
    unfold fX11_put_3
    refine fr_if ?_ ?_
    · exact hK μ hμ
    · refine fr_g (fr_wI hμ (inw_n (by decide)) fun μ1 hμ1 => ?_)
      refine fr_wI hμ1 (inw_s (by decide)) fun μ2 hμ2 => ?_
      exact ih (v2 + (-8)) μ2 hμ2
set_option maxRecDepth 100000 in
theorem frX11_put  (a1 : Int32) (μ : Mem) : FrO (WX11_put) μ id (fX11_put a1 μ) := by
  suffices hh : ∀ μ0 : Mem, Fr (WX11_put) μ0 μ → FrO (WX11_put) μ0 id (fX11_put a1 μ) from hh μ Fr.rfl
  intro μ0 hμ
  unfold fX11_put
  refine frX11_put_3 a1 μ0 _ (fun μ3 hμ3 => ?_) FU 24 μ hμ
  exact fr_ret hμ3
def WX11_feed : List (Nat × Nat × Option Nat) := [(244, 1, none), (243, 1, some 2)]
set_option maxRecDepth 100000 in
theorem frX11_feed  (a1 : Int32) (a2 : Int32) (a3 : Int32) (a4 : Int32) (a5 : Int32) (μ : Mem) : FrO (WX11_feed) μ Prod.snd (fX11_feed a1 a2 a3 a4 a5 μ) := by
  suffices hh : ∀ μ0 : Mem, Fr (WX11_feed) μ0 μ → FrO (WX11_feed) μ0 Prod.snd (fX11_feed a1 a2 a3 a4 a5 μ) from hh μ Fr.rfl
  intro μ0 hμ
  unfold fX11_feed
  refine fr_if ?_ ?_
  · exact fr_ret hμ
  · refine fr_bv (frX11_put a1 μ) hμ (by first | exact sub_mem (by decide) | (refine sub_mem ?_; simp [WX11_put, WX11_feed]; done) | (intro a9 j9 h9; simp [WX11_put, inW] at h9; simp [WX11_feed, inW]; omega)) fun q1 hq1 => ?_
    refine fr_bv (frX11_put a2 q1) hq1 (by first | exact sub_mem (by decide) | (refine sub_mem ?_; simp [WX11_put, WX11_feed]; done) | (intro a9 j9 h9; simp [WX11_put, inW] at h9; simp [WX11_feed, inW]; omega)) fun q2 hq2 => ?_
    refine fr_bv (frX11_put a3 q2) hq2 (by first | exact sub_mem (by decide) | (refine sub_mem ?_; simp [WX11_put, WX11_feed]; done) | (intro a9 j9 h9; simp [WX11_put, inW] at h9; simp [WX11_feed, inW]; omega)) fun q3 hq3 => ?_
    refine fr_bv (frX11_put a4 q3) hq3 (by first | exact sub_mem (by decide) | (refine sub_mem ?_; simp [WX11_put, WX11_feed]; done) | (intro a9 j9 h9; simp [WX11_put, inW] at h9; simp [WX11_feed, inW]; omega)) fun q4 hq4 => ?_
    refine fr_bv (frX11_put a5 q4) hq4 (by first | exact sub_mem (by decide) | (refine sub_mem ?_; simp [WX11_put, WX11_feed]; done) | (intro a9 j9 h9; simp [WX11_put, inW] at h9; simp [WX11_feed, inW]; omega)) fun q5 hq5 => ?_
    exact fr_ret hq5
def WX11_back : List (Nat × Nat × Option Nat) := [(243, 1, some 2)]
set_option maxRecDepth 100000 in
theorem frX11_back  (a1 : Int32) (μ : Mem) : FrO (WX11_back) μ Prod.snd (fX11_back a1 μ) := by
  suffices hh : ∀ μ0 : Mem, Fr (WX11_back) μ0 μ → FrO (WX11_back) μ0 Prod.snd (fX11_back a1 μ) from hh μ Fr.rfl
  intro μ0 hμ
  unfold fX11_back
  refine fr_if ?_ ?_
  · exact fr_ret hμ
  · refine fr_if ?_ ?_
    · exact fr_ret hμ
    · refine fr_wI hμ (inw_s (by decide)) fun μ1 hμ1 => ?_
      exact fr_ret hμ1
def WX11_token : List (Nat × Nat × Option Nat) := [(246, 1, none), (247, 1, none), (248, 1, none), (249, 1, none), (243, 1, some 10)]
set_option maxRecDepth 100000 in
theorem frX11_token  (a1 : Int32) (a2 : Int32) (a3 : Int32) (a4 : Int64) (μ : Mem) : FrO (WX11_token) μ id (fX11_token a1 a2 a3 a4 μ) := by
  suffices hh : ∀ μ0 : Mem, Fr (WX11_token) μ0 μ → FrO (WX11_token) μ0 id (fX11_token a1 a2 a3 a4 μ) from hh μ Fr.rfl
  intro μ0 hμ
  unfold fX11_token
  refine fr_g (fr_wI hμ (inw_n (by decide)) fun μ1 hμ1 => ?_)
  refine fr_g (fr_wI hμ1 (inw_n (by decide)) fun μ2 hμ2 => ?_)
  refine fr_g (fr_wI hμ2 (inw_n (by decide)) fun μ3 hμ3 => ?_)
  refine fr_g (fr_wJ hμ3 (inw_n (by decide)) fun μ4 hμ4 => ?_)
  refine fr_wI hμ4 (inw_s (by decide)) fun μ5 hμ5 => ?_
  exact fr_ret hμ5
def WX11_sign : List (Nat × Nat × Option Nat) := [(246, 1, none), (247, 1, none), (248, 1, none), (249, 1, none), (243, 1, some 10)]
set_option maxRecDepth 100000 in
theorem frX11_sign_j85   (v1 : Int32) (v2 : Int32) (v4 : Int32) (μ0 : Mem) (μ : Mem) (hμ : Fr (WX11_sign) μ0 μ)  : FrO (WX11_sign) μ0 Prod.snd (fX11_sign_j85 v1 v2 v4 μ) := by
  unfold fX11_sign_j85
  refine fr_if ?_ ?_
  · refine fr_bv (frX11_token 13 v1 0 0 μ) hμ (by first | exact sub_mem (by decide) | (refine sub_mem ?_; simp [WX11_token, WX11_sign]; done) | (intro a9 j9 h9; simp [WX11_token, inW] at h9; simp [WX11_sign, inW]; omega)) fun q2 hq2 => ?_
    exact fr_ret hq2
  · refine fr_bv (frX11_token v4 v1 0 0 μ) hμ (by first | exact sub_mem (by decide) | (refine sub_mem ?_; simp [WX11_token, WX11_sign]; done) | (intro a9 j9 h9; simp [WX11_token, inW] at h9; simp [WX11_sign, inW]; omega)) fun q1 hq1 => ?_
    exact fr_ret hq1
set_option maxRecDepth 100000 in
theorem frX11_sign_j55   (v1 : Int32) (v2 : Int32) (v4 : Int32) (μ0 : Mem) (μ : Mem) (hμ : Fr (WX11_sign) μ0 μ)  : FrO (WX11_sign) μ0 Prod.snd (fX11_sign_j55 v1 v2 v4 μ) := by
  unfold fX11_sign_j55
  refine fr_if ?_ ?_
  · refine fr_if ?_ ?_
    · refine fr_if ?_ ?_
      · exact frX11_sign_j85 v1 v2 15 μ0 μ hμ
      · exact frX11_sign_j85 v1 v2 10 μ0 μ hμ
    · refine fr_if ?_ ?_
      · exact frX11_sign_j85 v1 v2 15 μ0 μ hμ
      · exact frX11_sign_j85 v1 v2 9 μ0 μ hμ
  · refine fr_if ?_ ?_
    · refine fr_if ?_ ?_
      · exact frX11_sign_j85 v1 v2 15 μ0 μ hμ
      · exact frX11_sign_j85 v1 v2 10 μ0 μ hμ
    · refine fr_if ?_ ?_
      · exact frX11_sign_j85 v1 v2 15 μ0 μ hμ
      · exact frX11_sign_j85 v1 v2 v4 μ0 μ hμ
set_option maxRecDepth 100000 in
theorem frX11_sign  (a1 : Int32) (a2 : Int32) (a3 : Int32) (μ : Mem) : FrO (WX11_sign) μ Prod.snd (fX11_sign a1 a2 a3 μ) := by
  suffices hh : ∀ μ0 : Mem, Fr (WX11_sign) μ0 μ → FrO (WX11_sign) μ0 Prod.snd (fX11_sign a1 a2 a3 μ) from hh μ Fr.rfl
  intro μ0 hμ
  unfold fX11_sign
  refine fr_if ?_ ?_
  · refine fr_if ?_ ?_
    · exact frX11_sign_j55 a1 a2 8 μ0 μ hμ
    · exact frX11_sign_j55 a1 a2 4 μ0 μ hμ
  · refine fr_if ?_ ?_
    · refine fr_if ?_ ?_
      · exact frX11_sign_j55 a1 a2 8 μ0 μ hμ
      · exact frX11_sign_j55 a1 a2 5 μ0 μ hμ
    · refine fr_if ?_ ?_
      · refine fr_if ?_ ?_
        · exact frX11_sign_j55 a1 a2 8 μ0 μ hμ
        · exact frX11_sign_j55 a1 a2 6 μ0 μ hμ
      · refine fr_if ?_ ?_
        · refine fr_if ?_ ?_
          · exact frX11_sign_j55 a1 a2 8 μ0 μ hμ
          · exact frX11_sign_j55 a1 a2 7 μ0 μ hμ
        · refine fr_if ?_ ?_
          · exact frX11_sign_j55 a1 a2 8 μ0 μ hμ
          · exact frX11_sign_j55 a1 a2 3 μ0 μ hμ
def WX11_cut : List (Nat × Nat × Option Nat) := [(243, 1, some 10), (246, 1, none), (247, 1, none), (248, 1, none), (249, 1, none)]
set_option maxRecDepth 100000 in
theorem frX11_cut_208   (v1 : Int32) (μ0 : Mem) (μ : Mem) (hμ : Fr (WX11_cut) μ0 μ) (K : Int32 → Int32 → Option (Mem)) (hK : ∀ (v3 : Int32) (v4 : Int32), FrO (WX11_cut) μ0 id (K v3 v4)) : ∀ (n9 : Nat) (v3 : Int32) (v4 : Int32), FrO (WX11_cut) μ0 id (fX11_cut_208 v1 μ K n9 v3 v4) := by
  intro n9
  induction n9 with
  | zero => intros; exact fr_none
  | succ n ih =>
    intro v3 v4
    unfold fX11_cut_208
    refine fr_bp fun q7 => ?_
    refine fr_bp fun q8 => ?_
    refine fr_if ?_ ?_
    · refine fr_if ?_ ?_
      · refine fr_bp fun q9 => ?_
        refine fr_nmv fun x10 => ?_
        exact ih (v3 + 1) x10
      · exact ih (v3 + 1) v4
    · exact hK v3 v4
set_option maxRecDepth 100000 in
theorem frX11_cut_85   (v1 : Int32) (μ0 : Mem) (μ : Mem) (hμ : Fr (WX11_cut) μ0 μ) (K : Int32 → Int64 → Option (Mem)) (hK : ∀ (v3 : Int32) (v4 : Int64), FrO (WX11_cut) μ0 id (K v3 v4)) : ∀ (n9 : Nat) (v3 : Int32) (v4 : Int64), FrO (WX11_cut) μ0 id (fX11_cut_85 v1 μ K n9 v3 v4) := by
  intro n9
  induction n9 with
  | zero => intros; exact fr_none
  | succ n ih =>
    intro v3 v4
    unfold fX11_cut_85
    refine fr_bp fun q15 => ?_
    refine fr_bp fun q16 => ?_
    refine fr_if ?_ ?_
    · refine fr_if ?_ ?_
      · refine fr_bp fun q17 => ?_
        refine fr_bp fun q18 => ?_
        exact ih (v3 + 1) q18
      · exact ih (v3 + 1) v4
    · exact hK v3 v4
set_option maxRecDepth 100000 in
theorem frX11_cut_146   (v1 : Int32) (v3 : Int32) (v4 : Int64) (μ0 : Mem) (μ : Mem) (hμ : Fr (WX11_cut) μ0 μ) (K : Int32 → Option (Mem)) (hK : ∀ (v6 : Int32), FrO (WX11_cut) μ0 id (K v6)) : ∀ (n9 : Nat) (v6 : Int32) (v7 : Int32), FrO (WX11_cut) μ0 id (fX11_cut_146 v1 v3 v4 μ K n9 v6 v7) := by
  intro n9
  induction n9 with
  | zero => intros; exact fr_none
  | succ n ih =>
    intro v6 v7
    unfold fX11_cut_146
    refine fr_if ?_ ?_
    · refine fr_g ?_
      refine fr_if ?_ ?_
      · exact ih (20 + v7) (v7 + 1)
      · exact ih v6 (v7 + 1)
    · exact hK v6
set_option maxRecDepth 100000 in
theorem frX11_cut_7    (μ0 : Mem)  (K : Mem → Option (Mem)) (hK : ∀  (μ : Mem) (_ : Fr (WX11_cut) μ0 μ), FrO (WX11_cut) μ0 id (K μ)) : ∀ (n9 : Nat) (v1 : Int32) (μ : Mem) (_ : Fr (WX11_cut) μ0 μ), FrO (WX11_cut) μ0 id (fX11_cut_7 K n9 v1 μ) := by
  intro n9
  induction n9 with
  | zero => intros; exact fr_none
  | succ n ih =>
    intro v1 μ hμ
    unfold fX11_cut_7
    refine fr_if ?_ ?_
    · exact hK μ hμ
    · refine fr_bp fun q2 => ?_
      refine fr_if ?_ ?_
      · refine fr_if ?_ ?_
        · exact ih (v1 + 1) μ hμ
        · refine fr_if ?_ ?_
          · exact ih (v1 + 1) μ hμ
          · refine fr_if ?_ ?_
            · exact ih (v1 + 1) μ hμ
            · refine fr_if ?_ ?_
              · exact ih (v1 + 1) μ hμ
              · refine fr_bp fun q3 => ?_
                refine fr_if ?_ ?_
                · refine frX11_cut_85 v1 μ0 μ hμ _ (fun y19 y20 => ?_) FU 0 0
                  refine fr_if ?_ ?_
                  · refine fr_if ?_ ?_
                    · refine fr_bv (frX11_token 3 v1 0 y20 μ) hμ (by first | exact sub_mem (by decide) | (refine sub_mem ?_; simp [WX11_token, WX11_cut]; done) | (intro a9 j9 h9; simp [WX11_token, inW] at h9; simp [WX11_cut, inW]; omega)) fun q24 hq24 => ?_
                      exact ih (v1 + y19) q24 hq24
                    · refine frX11_cut_146 v1 y19 y20 μ0 μ hμ _ (fun y25 => ?_) FU 3 0
                      refine fr_bv (frX11_token y25 v1 0 y20 μ) hμ (by first | exact sub_mem (by decide) | (refine sub_mem ?_; simp [WX11_token, WX11_cut]; done) | (intro a9 j9 h9; simp [WX11_token, inW] at h9; simp [WX11_cut, inW]; omega)) fun q26 hq26 => ?_
                      exact ih (v1 + y19) q26 hq26
                  · refine fr_if ?_ ?_
                    · refine fr_bv (frX11_token 1 v1 0 y20 μ) hμ (by first | exact sub_mem (by decide) | (refine sub_mem ?_; simp [WX11_token, WX11_cut]; done) | (intro a9 j9 h9; simp [WX11_token, inW] at h9; simp [WX11_cut, inW]; omega)) fun q21 hq21 => ?_
                      exact ih (v1 + y19) q21 hq21
                    · refine frX11_cut_146 v1 y19 y20 μ0 μ hμ _ (fun y22 => ?_) FU 1 0
                      refine fr_bv (frX11_token y22 v1 0 y20 μ) hμ (by first | exact sub_mem (by decide) | (refine sub_mem ?_; simp [WX11_token, WX11_cut]; done) | (intro a9 j9 h9; simp [WX11_token, inW] at h9; simp [WX11_cut, inW]; omega)) fun q23 hq23 => ?_
                      exact ih (v1 + y19) q23 hq23
                · refine fr_bp fun q4 => ?_
                  refine fr_if ?_ ?_
                  · refine frX11_cut_208 v1 μ0 μ hμ _ (fun y11 y12 => ?_) FU 0 0
                    refine fr_if ?_ ?_
                    · refine fr_bv (frX11_token 3 v1 y12 0 μ) hμ (by first | exact sub_mem (by decide) | (refine sub_mem ?_; simp [WX11_token, WX11_cut]; done) | (intro a9 j9 h9; simp [WX11_token, inW] at h9; simp [WX11_cut, inW]; omega)) fun q14 hq14 => ?_
                      exact ih (v1 + y11) q14 hq14
                    · refine fr_bv (frX11_token 2 v1 y12 0 μ) hμ (by first | exact sub_mem (by decide) | (refine sub_mem ?_; simp [WX11_token, WX11_cut]; done) | (intro a9 j9 h9; simp [WX11_token, inW] at h9; simp [WX11_cut, inW]; omega)) fun q13 hq13 => ?_
                      exact ih (v1 + y11) q13 hq13
                  · refine fr_bp fun q5 => ?_
                    refine fr_bm (frX11_sign v1 q2 q5 μ) hμ (by first | exact sub_mem (by decide) | (refine sub_mem ?_; simp [WX11_sign, WX11_cut]; done) | (intro a9 j9 h9; simp [WX11_sign, inW] at h9; simp [WX11_cut, inW]; omega)) fun q6 hq6 => ?_
                    exact ih (v1 + q6.1) q6.2 hq6
      · refine fr_bv (frX11_token 0 (μ.1 243 4) 0 0 μ) hμ (by first | exact sub_mem (by decide) | (refine sub_mem ?_; simp [WX11_token, WX11_cut]; done) | (intro a9 j9 h9; simp [WX11_token, inW] at h9; simp [WX11_cut, inW]; omega)) fun q27 hq27 => ?_
        exact fr_ret hq27
set_option maxRecDepth 100000 in
theorem frX11_cut   (μ : Mem) : FrO (WX11_cut) μ id (fX11_cut  μ) := by
  suffices hh : ∀ μ0 : Mem, Fr (WX11_cut) μ0 μ → FrO (WX11_cut) μ0 id (fX11_cut  μ) from hh μ Fr.rfl
  intro μ0 hμ
  unfold fX11_cut
  refine fr_wI hμ (inw_s (by decide)) fun μ1 hμ1 => ?_
  refine frX11_cut_7 μ0 _ (fun μ28 hμ28 => ?_) FU 0 μ1 hμ1
  exact fr_ret hμ28
def WX11_fail : List (Nat × Nat × Option Nat) := [(243, 1, some 13), (243, 1, some 14)]
set_option maxRecDepth 100000 in
theorem frX11_fail  (a1 : Int32) (μ : Mem) : FrO (WX11_fail) μ id (fX11_fail a1 μ) := by
  suffices hh : ∀ μ0 : Mem, Fr (WX11_fail) μ0 μ → FrO (WX11_fail) μ0 id (fX11_fail a1 μ) from hh μ Fr.rfl
  intro μ0 hμ
  unfold fX11_fail
  refine fr_if ?_ ?_
  · exact fr_ret hμ
  · refine fr_wI hμ (inw_s (by decide)) fun μ1 hμ1 => ?_
    refine fr_g ?_
    refine fr_wI hμ1 (inw_s (by decide)) fun μ2 hμ2 => ?_
    exact fr_ret hμ2
def WX11_wrong : List (Nat × Nat × Option Nat) := [(243, 1, some 15), (243, 1, some 16)]
set_option maxRecDepth 100000 in
theorem frX11_wrong  (a1 : Int32) (a2 : Int32) (μ : Mem) : FrO (WX11_wrong) μ id (fX11_wrong a1 a2 μ) := by
  suffices hh : ∀ μ0 : Mem, Fr (WX11_wrong) μ0 μ → FrO (WX11_wrong) μ0 id (fX11_wrong a1 a2 μ) from hh μ Fr.rfl
  intro μ0 hμ
  unfold fX11_wrong
  refine fr_g ?_
  refine fr_nmv fun x1 => ?_
  refine fr_if ?_ ?_
  · exact fr_ret hμ
  · refine fr_if ?_ ?_
    · refine fr_wI hμ (inw_s (by decide)) fun μ2 hμ2 => ?_
      refine fr_wI hμ2 (inw_s (by decide)) fun μ3 hμ3 => ?_
      exact fr_ret hμ3
    · refine fr_if ?_ ?_
      · exact fr_ret hμ
      · refine fr_if ?_ ?_
        · refine fr_if ?_ ?_
          · refine fr_wI hμ (inw_s (by decide)) fun μ6 hμ6 => ?_
            refine fr_wI hμ6 (inw_s (by decide)) fun μ7 hμ7 => ?_
            exact fr_ret hμ7
          · exact fr_ret hμ
        · refine fr_wI hμ (inw_s (by decide)) fun μ4 hμ4 => ?_
          refine fr_wI hμ4 (inw_s (by decide)) fun μ5 hμ5 => ?_
          exact fr_ret hμ5
def WX11_goesOn : List (Nat × Nat × Option Nat) := [(243, 1, some 13), (243, 1, some 14), (243, 1, some 11)]
set_option maxRecDepth 100000 in
theorem frX11_goesOn   (μ : Mem) : FrO (WX11_goesOn) μ id (fX11_goesOn  μ) := by
  suffices hh : ∀ μ0 : Mem, Fr (WX11_goesOn) μ0 μ → FrO (WX11_goesOn) μ0 id (fX11_goesOn  μ) from hh μ Fr.rfl
  intro μ0 hμ
  unfold fX11_goesOn
  refine fr_if ?_ ?_
  · refine fr_bv (frX11_fail 2 μ) hμ (by first | exact sub_mem (by decide) | (refine sub_mem ?_; simp [WX11_fail, WX11_goesOn]; done) | (intro a9 j9 h9; simp [WX11_fail, inW] at h9; simp [WX11_goesOn, inW]; omega)) fun q2 hq2 => ?_
    exact fr_ret hq2
  · refine fr_wI hμ (inw_s (by decide)) fun μ1 hμ1 => ?_
    exact fr_ret hμ1
def WX11_must : List (Nat × Nat × Option Nat) := [(243, 1, some 13), (243, 1, some 14), (243, 1, some 11)]
set_option maxRecDepth 100000 in
theorem frX11_must  (a1 : Int32) (μ : Mem) : FrO (WX11_must) μ id (fX11_must a1 μ) := by
  suffices hh : ∀ μ0 : Mem, Fr (WX11_must) μ0 μ → FrO (WX11_must) μ0 id (fX11_must a1 μ) from hh μ Fr.rfl
  intro μ0 hμ
  unfold fX11_must
  refine fr_bp fun q1 => ?_
  refine fr_if ?_ ?_
  · refine fr_bv (frX11_goesOn μ) hμ (by first | exact sub_mem (by decide) | (refine sub_mem ?_; simp [WX11_goesOn, WX11_must]; done) | (intro a9 j9 h9; simp [WX11_goesOn, inW] at h9; simp [WX11_must, inW]; omega)) fun q3 hq3 => ?_
    exact fr_ret hq3
  · refine fr_bv (frX11_fail 1 μ) hμ (by first | exact sub_mem (by decide) | (refine sub_mem ?_; simp [WX11_fail, WX11_must]; done) | (intro a9 j9 h9; simp [WX11_fail, inW] at h9; simp [WX11_must, inW]; omega)) fun q2 hq2 => ?_
    exact fr_ret hq2
def WX11_roomFor : List (Nat × Nat × Option Nat) := [(243, 1, some 13), (243, 1, some 14), (243, 1, some 11)]
set_option maxRecDepth 100000 in
theorem frX11_roomFor  (a1 : Int32) (a2 : Int32) (μ : Mem) : FrO (WX11_roomFor) μ id (fX11_roomFor a1 a2 μ) := by
  suffices hh : ∀ μ0 : Mem, Fr (WX11_roomFor) μ0 μ → FrO (WX11_roomFor) μ0 id (fX11_roomFor a1 a2 μ) from hh μ Fr.rfl
  intro μ0 hμ
  unfold fX11_roomFor
  refine fr_if ?_ ?_
  · refine fr_bv (frX11_fail 2 μ) hμ (by first | exact sub_mem (by decide) | (refine sub_mem ?_; simp [WX11_fail, WX11_roomFor]; done) | (intro a9 j9 h9; simp [WX11_fail, inW] at h9; simp [WX11_roomFor, inW]; omega)) fun q2 hq2 => ?_
    refine fr_if ?_ ?_
    · refine fr_bv (frX11_goesOn q2) hq2 (by first | exact sub_mem (by decide) | (refine sub_mem ?_; simp [WX11_goesOn, WX11_roomFor]; done) | (intro a9 j9 h9; simp [WX11_goesOn, inW] at h9; simp [WX11_roomFor, inW]; omega)) fun q3 hq3 => ?_
      exact fr_ret hq3
    · exact fr_ret hq2
  · refine fr_if ?_ ?_
    · refine fr_bv (frX11_goesOn μ) hμ (by first | exact sub_mem (by decide) | (refine sub_mem ?_; simp [WX11_goesOn, WX11_roomFor]; done) | (intro a9 j9 h9; simp [WX11_goesOn, inW] at h9; simp [WX11_roomFor, inW]; omega)) fun q1 hq1 => ?_
      exact fr_ret hq1
    · exact fr_ret hμ
def WX11_named : List (Nat × Nat × Option Nat) := [(243, 1, some 13), (243, 1, some 14), (243, 1, some 11), (243, 1, some 15), (243, 1, some 16)]
set_option maxRecDepth 100000 in
theorem frX11_named_12   (v1 : Int32) (μ0 : Mem)  (K : Mem → Option (Int32 × Mem)) (hK : ∀  (μ : Mem) (_ : Fr (WX11_named) μ0 μ), FrO (WX11_named) μ0 Prod.snd (K μ)) : ∀ (n9 : Nat) (v2 : Int32) (μ : Mem) (_ : Fr (WX11_named) μ0 μ), FrO (WX11_named) μ0 Prod.snd (fX11_named_12 v1 K n9 v2 μ) := by
  intro n9
  induction n9 with
  | zero => intros; exact fr_none
  | succ n ih =>
    intro v2 μ hμ
    unfold fX11_named_12
    refine fr_if ?_ ?_
    · refine fr_if ?_ ?_
      · refine fr_g ?_
        refine fr_g ?_
        refine fr_if ?_ ?_
        · refine fr_bv (frX11_wrong 3 v1 μ) hμ (by first | exact sub_mem (by decide) | (refine sub_mem ?_; simp [WX11_wrong, WX11_named]; done) | (intro a9 j9 h9; simp [WX11_wrong, inW] at h9; simp [WX11_named, inW]; omega)) fun q2 hq2 => ?_
          exact ih (v2 + 1) q2 hq2
        · exact ih (v2 + 1) μ hμ
      · exact hK μ hμ
    · exact hK μ hμ
set_option maxRecDepth 100000 in
theorem frX11_named   (μ : Mem) : FrO (WX11_named) μ Prod.snd (fX11_named  μ) := by
  suffices hh : ∀ μ0 : Mem, Fr (WX11_named) μ0 μ → FrO (WX11_named) μ0 Prod.snd (fX11_named  μ) from hh μ Fr.rfl
  intro μ0 hμ
  unfold fX11_named
  refine fr_bv (frX11_must 1 μ) hμ (by first | exact sub_mem (by decide) | (refine sub_mem ?_; simp [WX11_must, WX11_named]; done) | (intro a9 j9 h9; simp [WX11_must, inW] at h9; simp [WX11_named, inW]; omega)) fun q1 hq1 => ?_
  refine frX11_named_12 (μ.1 243 11) μ0 _ (fun μ3 hμ3 => ?_) FU 0 q1 hq1
  exact fr_ret hμ3
def WX11_bounded : List (Nat × Nat × Option Nat) := [(243, 1, some 13), (243, 1, some 14), (243, 1, some 15), (243, 1, some 16), (243, 1, some 11)]
set_option maxRecDepth 100000 in
theorem frX11_bounded  (a1 : Int32) (a2 : Int32) (μ : Mem) : FrO (WX11_bounded) μ Prod.snd (fX11_bounded a1 a2 μ) := by
  suffices hh : ∀ μ0 : Mem, Fr (WX11_bounded) μ0 μ → FrO (WX11_bounded) μ0 Prod.snd (fX11_bounded a1 a2 μ) from hh μ Fr.rfl
  intro μ0 hμ
  unfold fX11_bounded
  refine fr_if ?_ ?_
  · refine fr_bv (frX11_fail 1 μ) hμ (by first | exact sub_mem (by decide) | (refine sub_mem ?_; simp [WX11_fail, WX11_bounded]; done) | (intro a9 j9 h9; simp [WX11_fail, inW] at h9; simp [WX11_bounded, inW]; omega)) fun q1 hq1 => ?_
    exact fr_ret hq1
  · refine fr_bp fun q2 => ?_
    refine fr_if ?_ ?_
    · refine fr_g ?_
      refine fr_nmv fun x3 => ?_
      refine fr_if ?_ ?_
      · refine fr_bv (frX11_wrong 5 (μ.1 243 11) μ) hμ (by first | exact sub_mem (by decide) | (refine sub_mem ?_; simp [WX11_wrong, WX11_bounded]; done) | (intro a9 j9 h9; simp [WX11_wrong, inW] at h9; simp [WX11_bounded, inW]; omega)) fun q4 hq4 => ?_
        refine fr_bv (frX11_goesOn q4) hq4 (by first | exact sub_mem (by decide) | (refine sub_mem ?_; simp [WX11_goesOn, WX11_bounded]; done) | (intro a9 j9 h9; simp [WX11_goesOn, inW] at h9; simp [WX11_bounded, inW]; omega)) fun q5 hq5 => ?_
        exact fr_ret hq5
      · refine fr_if ?_ ?_
        · refine fr_bv (frX11_wrong 5 (μ.1 243 11) μ) hμ (by first | exact sub_mem (by decide) | (refine sub_mem ?_; simp [WX11_wrong, WX11_bounded]; done) | (intro a9 j9 h9; simp [WX11_wrong, inW] at h9; simp [WX11_bounded, inW]; omega)) fun q7 hq7 => ?_
          refine fr_bv (frX11_goesOn q7) hq7 (by first | exact sub_mem (by decide) | (refine sub_mem ?_; simp [WX11_goesOn, WX11_bounded]; done) | (intro a9 j9 h9; simp [WX11_goesOn, inW] at h9; simp [WX11_bounded, inW]; omega)) fun q8 hq8 => ?_
          exact fr_ret hq8
        · refine fr_bv (frX11_goesOn μ) hμ (by first | exact sub_mem (by decide) | (refine sub_mem ?_; simp [WX11_goesOn, WX11_bounded]; done) | (intro a9 j9 h9; simp [WX11_goesOn, inW] at h9; simp [WX11_bounded, inW]; omega)) fun q6 hq6 => ?_
          exact fr_ret hq6
    · refine fr_bv (frX11_fail 1 μ) hμ (by first | exact sub_mem (by decide) | (refine sub_mem ?_; simp [WX11_fail, WX11_bounded]; done) | (intro a9 j9 h9; simp [WX11_fail, inW] at h9; simp [WX11_bounded, inW]; omega)) fun q9 hq9 => ?_
      exact fr_ret hq9
def WX11_endsName : List (Nat × Nat × Option Nat) := [(243, 1, some 13), (243, 1, some 14), (243, 1, some 11), (251, 1, none), (252, 1, none), (243, 1, some 20)]
set_option maxRecDepth 100000 in
theorem frX11_endsName  (a1 : Int32) (a2 : Int32) (μ : Mem) : FrO (WX11_endsName) μ id (fX11_endsName a1 a2 μ) := by
  suffices hh : ∀ μ0 : Mem, Fr (WX11_endsName) μ0 μ → FrO (WX11_endsName) μ0 id (fX11_endsName a1 a2 μ) from hh μ Fr.rfl
  intro μ0 hμ
  unfold fX11_endsName
  refine fr_bv (frX11_must 4 μ) hμ (by first | exact sub_mem (by decide) | (refine sub_mem ?_; simp [WX11_must, WX11_endsName]; done) | (intro a9 j9 h9; simp [WX11_must, inW] at h9; simp [WX11_endsName, inW]; omega)) fun q1 hq1 => ?_
  refine fr_if ?_ ?_
  · exact fr_ret hq1
  · refine fr_g ?_
    refine fr_g (fr_wJ hq1 (inw_n (by decide)) fun μ2 hμ2 => ?_)
    refine fr_g (fr_wI hμ2 (inw_n (by decide)) fun μ3 hμ3 => ?_)
    refine fr_wI hμ3 (inw_s (by decide)) fun μ4 hμ4 => ?_
    exact fr_ret hμ4
def WX11_known : List (Nat × Nat × Option Nat) := [(243, 1, some 13), (243, 1, some 14), (243, 1, some 11), (243, 1, some 15), (243, 1, some 16)]
set_option maxRecDepth 100000 in
theorem frX11_known_21   (v1 : Int32) (μ0 : Mem) (μ : Mem) (hμ : Fr (WX11_known) μ0 μ) (K : Unit → Option (Int32 × Mem)) (hK : ∀ (_ : Unit), FrO (WX11_known) μ0 Prod.snd (K ())) : ∀ (n9 : Nat) (v2 : Int32), FrO (WX11_known) μ0 Prod.snd (fX11_known_21 v1 μ K n9 v2) := by
  intro n9
  induction n9 with
  | zero => intros; exact fr_none
  | succ n ih =>
    intro v2
    unfold fX11_known_21
    refine fr_if ?_ ?_
    · refine fr_g ?_
      refine fr_g ?_
      refine fr_if ?_ ?_
      · refine fr_g ?_
        refine fr_if ?_ ?_
        · exact ih (v2 + 1)
        · refine fr_g ?_
          exact fr_ret hμ
      · exact ih (v2 + 1)
    · exact hK ()
set_option maxRecDepth 100000 in
theorem frX11_known   (μ : Mem) : FrO (WX11_known) μ Prod.snd (fX11_known  μ) := by
  suffices hh : ∀ μ0 : Mem, Fr (WX11_known) μ0 μ → FrO (WX11_known) μ0 Prod.snd (fX11_known  μ) from hh μ Fr.rfl
  intro μ0 hμ
  unfold fX11_known
  refine fr_bv (frX11_must 1 μ) hμ (by first | exact sub_mem (by decide) | (refine sub_mem ?_; simp [WX11_must, WX11_known]; done) | (intro a9 j9 h9; simp [WX11_must, inW] at h9; simp [WX11_known, inW]; omega)) fun q1 hq1 => ?_
  refine fr_if ?_ ?_
  · exact fr_ret hq1
  · refine frX11_known_21 (μ.1 243 11) μ0 q1 hq1 _ (fun _ => ?_) FU 0
    refine fr_bv (frX11_wrong 4 (μ.1 243 11) q1) hq1 (by first | exact sub_mem (by decide) | (refine sub_mem ?_; simp [WX11_wrong, WX11_known]; done) | (intro a9 j9 h9; simp [WX11_wrong, inW] at h9; simp [WX11_known, inW]; omega)) fun q2 hq2 => ?_
    exact fr_ret hq2
def WX11_tellFoes : List (Nat × Nat × Option Nat) := [(243, 1, some 13), (243, 1, some 14), (243, 1, some 11), (243, 1, some 15), (243, 1, some 16), (261, 1, none), (260, 1, none)]
set_option maxRecDepth 100000 in
theorem frX11_tellFoes_j75   (v1 : Int32) (v3 : Int32) (v4 : Int32) (μ0 : Mem) (μ : Mem) (hμ : Fr (WX11_tellFoes) μ0 μ)  : FrO (WX11_tellFoes) μ0 id (fX11_tellFoes_j75 v1 v3 v4 μ) := by
  unfold fX11_tellFoes_j75
  refine fr_bv (frX11_must 4 μ) hμ (by first | exact sub_mem (by decide) | (refine sub_mem ?_; simp [WX11_must, WX11_tellFoes]; done) | (intro a9 j9 h9; simp [WX11_must, inW] at h9; simp [WX11_tellFoes, inW]; omega)) fun q4 hq4 => ?_
  refine fr_if ?_ ?_
  · exact fr_ret hq4
  · refine fr_g ?_
    refine fr_g (fr_wI hq4 (inw_n (by decide)) fun μ5 hμ5 => ?_)
    refine fr_if ?_ ?_
    · exact fr_ret hμ5
    · refine fr_g ?_
      refine fr_g (fr_wI hμ5 (inw_n (by decide)) fun μ6 hμ6 => ?_)
      refine fr_g ?_
      refine fr_g (fr_wI hμ6 (inw_n (by decide)) fun μ7 hμ7 => ?_)
      exact fr_ret hμ7
set_option maxRecDepth 100000 in
theorem frX11_tellFoes_j35   (v1 : Int32) (v2 : Int32) (v3 : Int32) (s0 : Int32) (μ0 : Mem) (μ : Mem) (hμ : Fr (WX11_tellFoes) μ0 μ)  : FrO (WX11_tellFoes) μ0 id (fX11_tellFoes_j35 v1 v2 v3 s0 μ) := by
  unfold fX11_tellFoes_j35
  refine fr_if ?_ ?_
  · exact frX11_tellFoes_j75 v1 v3 s0 μ0 μ hμ
  · refine fr_if ?_ ?_
    · refine fr_bv (frX11_wrong 3 v2 μ) hμ (by first | exact sub_mem (by decide) | (refine sub_mem ?_; simp [WX11_wrong, WX11_tellFoes]; done) | (intro a9 j9 h9; simp [WX11_wrong, inW] at h9; simp [WX11_tellFoes, inW]; omega)) fun q8 hq8 => ?_
      exact frX11_tellFoes_j75 v1 v3 s0 μ0 q8 hq8
    · refine fr_g ?_
      refine fr_if ?_ ?_
      · refine fr_bv (frX11_wrong 3 v2 μ) hμ (by first | exact sub_mem (by decide) | (refine sub_mem ?_; simp [WX11_wrong, WX11_tellFoes]; done) | (intro a9 j9 h9; simp [WX11_wrong, inW] at h9; simp [WX11_tellFoes, inW]; omega)) fun q9 hq9 => ?_
        exact frX11_tellFoes_j75 v1 v3 s0 μ0 q9 hq9
      · exact frX11_tellFoes_j75 v1 v3 s0 μ0 μ hμ
set_option maxRecDepth 100000 in
theorem frX11_tellFoes   (μ : Mem) : FrO (WX11_tellFoes) μ id (fX11_tellFoes  μ) := by
  suffices hh : ∀ μ0 : Mem, Fr (WX11_tellFoes) μ0 μ → FrO (WX11_tellFoes) μ0 id (fX11_tellFoes  μ) from hh μ Fr.rfl
  intro μ0 hμ
  unfold fX11_tellFoes
  refine fr_bm (frX11_known μ) hμ (by first | exact sub_mem (by decide) | (refine sub_mem ?_; simp [WX11_known, WX11_tellFoes]; done) | (intro a9 j9 h9; simp [WX11_known, inW] at h9; simp [WX11_tellFoes, inW]; omega)) fun q1 hq1 => ?_
  refine fr_nmv fun x2 => ?_
  refine fr_bm (frX11_known q1.2) hq1 (by first | exact sub_mem (by decide) | (refine sub_mem ?_; simp [WX11_known, WX11_tellFoes]; done) | (intro a9 j9 h9; simp [WX11_known, inW] at h9; simp [WX11_tellFoes, inW]; omega)) fun q3 hq3 => ?_
  refine fr_if ?_ ?_
  · refine fr_if ?_ ?_
    · exact frX11_tellFoes_j35 q1.1 x2 q3.1 0 μ0 q3.2 hq3
    · refine fr_if ?_ ?_
      · exact frX11_tellFoes_j35 q1.1 x2 q3.1 0 μ0 q3.2 hq3
      · exact frX11_tellFoes_j35 q1.1 x2 q3.1 1 μ0 q3.2 hq3
  · exact frX11_tellFoes_j35 q1.1 x2 q3.1 0 μ0 q3.2 hq3
def WX11_toldInt : List (Nat × Nat × Option Nat) := [(243, 1, some 13), (243, 1, some 14), (243, 1, some 11), (243, 1, some 15), (243, 1, some 16)]
set_option maxRecDepth 100000 in
theorem frX11_toldInt  (a1 : Int32) (a2 : Int32) (μ : Mem) : FrO (WX11_toldInt) μ Prod.snd (fX11_toldInt a1 a2 μ) := by
  suffices hh : ∀ μ0 : Mem, Fr (WX11_toldInt) μ0 μ → FrO (WX11_toldInt) μ0 Prod.snd (fX11_toldInt a1 a2 μ) from hh μ Fr.rfl
  intro μ0 hμ
  unfold fX11_toldInt
  refine fr_bv (frX11_goesOn μ) hμ (by first | exact sub_mem (by decide) | (refine sub_mem ?_; simp [WX11_goesOn, WX11_toldInt]; done) | (intro a9 j9 h9; simp [WX11_goesOn, inW] at h9; simp [WX11_toldInt, inW]; omega)) fun q1 hq1 => ?_
  refine fr_bm (frX11_bounded a1 a2 q1) hq1 (by first | exact sub_mem (by decide) | (refine sub_mem ?_; simp [WX11_bounded, WX11_toldInt]; done) | (intro a9 j9 h9; simp [WX11_bounded, inW] at h9; simp [WX11_toldInt, inW]; omega)) fun q2 hq2 => ?_
  refine fr_bv (frX11_must 4 q2.2) hq2 (by first | exact sub_mem (by decide) | (refine sub_mem ?_; simp [WX11_must, WX11_toldInt]; done) | (intro a9 j9 h9; simp [WX11_must, inW] at h9; simp [WX11_toldInt, inW]; omega)) fun q3 hq3 => ?_
  exact fr_ret hq3
def WX11_emit : List (Nat × Nat × Option Nat) := [(271, 1, none), (272, 1, none), (243, 1, some 42)]
set_option maxRecDepth 100000 in
theorem frX11_emit  (a1 : Int32) (a2 : Int32) (μ : Mem) : FrO (WX11_emit) μ id (fX11_emit a1 a2 μ) := by
  suffices hh : ∀ μ0 : Mem, Fr (WX11_emit) μ0 μ → FrO (WX11_emit) μ0 id (fX11_emit a1 a2 μ) from hh μ Fr.rfl
  intro μ0 hμ
  unfold fX11_emit
  refine fr_g (fr_wI hμ (inw_n (by decide)) fun μ1 hμ1 => ?_)
  refine fr_g (fr_wI hμ1 (inw_n (by decide)) fun μ2 hμ2 => ?_)
  refine fr_wI hμ2 (inw_s (by decide)) fun μ3 hμ3 => ?_
  exact fr_ret hμ3
def WX11_unit : List (Nat × Nat × Option Nat) := [(271, 1, none), (272, 1, none), (243, 1, some 42), (243, 1, some 13), (243, 1, some 14), (243, 1, some 11)]
set_option maxRecDepth 100000 in
theorem frX11_unit   (μ : Mem) : FrO (WX11_unit) μ id (fX11_unit  μ) := by
  suffices hh : ∀ μ0 : Mem, Fr (WX11_unit) μ0 μ → FrO (WX11_unit) μ0 id (fX11_unit  μ) from hh μ Fr.rfl
  intro μ0 hμ
  unfold fX11_unit
  refine fr_bp fun q1 => ?_
  refine fr_if ?_ ?_
  · refine fr_g ?_
    refine fr_bv (frX11_emit 0 (μ.1 248 (μ.1 243 11).toNatClampNeg) μ) hμ (by first | exact sub_mem (by decide) | (refine sub_mem ?_; simp [WX11_emit, WX11_unit]; done) | (intro a9 j9 h9; simp [WX11_emit, inW] at h9; simp [WX11_unit, inW]; omega)) fun q7 hq7 => ?_
    refine fr_bv (frX11_goesOn q7) hq7 (by first | exact sub_mem (by decide) | (refine sub_mem ?_; simp [WX11_goesOn, WX11_unit]; done) | (intro a9 j9 h9; simp [WX11_goesOn, inW] at h9; simp [WX11_unit, inW]; omega)) fun q8 hq8 => ?_
    exact fr_ret hq8
  · refine fr_if ?_ ?_
    · refine fr_g ?_
      refine fr_if ?_ ?_
      · refine fr_bv (frX11_fail 1 μ) hμ (by first | exact sub_mem (by decide) | (refine sub_mem ?_; simp [WX11_fail, WX11_unit]; done) | (intro a9 j9 h9; simp [WX11_fail, inW] at h9; simp [WX11_unit, inW]; omega)) fun q3 hq3 => ?_
        exact fr_ret hq3
      · refine fr_g ?_
        refine fr_if ?_ ?_
        · refine fr_bv (frX11_fail 1 μ) hμ (by first | exact sub_mem (by decide) | (refine sub_mem ?_; simp [WX11_fail, WX11_unit]; done) | (intro a9 j9 h9; simp [WX11_fail, inW] at h9; simp [WX11_unit, inW]; omega)) fun q4 hq4 => ?_
          exact fr_ret hq4
        · refine fr_g ?_
          refine fr_bv (frX11_emit 1 ((μ.1 246 (μ.1 243 11).toNatClampNeg) - 32) μ) hμ (by first | exact sub_mem (by decide) | (refine sub_mem ?_; simp [WX11_emit, WX11_unit]; done) | (intro a9 j9 h9; simp [WX11_emit, inW] at h9; simp [WX11_unit, inW]; omega)) fun q5 hq5 => ?_
          refine fr_bv (frX11_goesOn q5) hq5 (by first | exact sub_mem (by decide) | (refine sub_mem ?_; simp [WX11_goesOn, WX11_unit]; done) | (intro a9 j9 h9; simp [WX11_goesOn, inW] at h9; simp [WX11_unit, inW]; omega)) fun q6 hq6 => ?_
          exact fr_ret hq6
    · refine fr_bv (frX11_fail 1 μ) hμ (by first | exact sub_mem (by decide) | (refine sub_mem ?_; simp [WX11_fail, WX11_unit]; done) | (intro a9 j9 h9; simp [WX11_fail, inW] at h9; simp [WX11_unit, inW]; omega)) fun q2 hq2 => ?_
      exact fr_ret hq2
def WX11_comesOut : List (Nat × Nat × Option Nat) := [(243, 1, some 46), (271, 1, none), (272, 1, none), (243, 1, some 42)]
set_option maxRecDepth 100000 in
theorem frX11_comesOut_j42_0   (v1 : Int32) (v2 : Int32) (μ0 : Mem) (μ : Mem) (hμ : Fr (WX11_comesOut) μ0 μ) (KB : Mem → Option (Mem)) (hB : ∀  (um : Mem) (_ : Fr (WX11_comesOut) μ0 um), FrO (WX11_comesOut) μ0 id (KB um)) (K : Mem → Option (Mem)) (hK : ∀  (um : Mem) (_ : Fr (WX11_comesOut) μ0 um), FrO (WX11_comesOut) μ0 id (K um)) : FrO (WX11_comesOut) μ0 id (fX11_comesOut_j42_0 KB K v1 v2 μ) := by
  unfold fX11_comesOut_j42_0
  refine fr_wI hμ (inw_s (by decide)) fun μ2 hμ2 => ?_
  refine fr_if ?_ ?_
  · refine fr_bv (frX11_emit 2 0 μ2) hμ2 (by first | exact sub_mem (by decide) | (refine sub_mem ?_; simp [WX11_emit, WX11_comesOut]; done) | (intro a9 j9 h9; simp [WX11_emit, inW] at h9; simp [WX11_comesOut, inW]; omega)) fun q6 hq6 => ?_
    exact hB q6 hq6
  · refine fr_if ?_ ?_
    · refine fr_bv (frX11_emit 3 0 μ2) hμ2 (by first | exact sub_mem (by decide) | (refine sub_mem ?_; simp [WX11_emit, WX11_comesOut]; done) | (intro a9 j9 h9; simp [WX11_emit, inW] at h9; simp [WX11_comesOut, inW]; omega)) fun q5 hq5 => ?_
      exact hB q5 hq5
    · refine fr_if ?_ ?_
      · refine fr_bv (frX11_emit 4 0 μ2) hμ2 (by first | exact sub_mem (by decide) | (refine sub_mem ?_; simp [WX11_emit, WX11_comesOut]; done) | (intro a9 j9 h9; simp [WX11_emit, inW] at h9; simp [WX11_comesOut, inW]; omega)) fun q4 hq4 => ?_
        exact hB q4 hq4
      · refine fr_bv (frX11_emit 5 0 μ2) hμ2 (by first | exact sub_mem (by decide) | (refine sub_mem ?_; simp [WX11_emit, WX11_comesOut]; done) | (intro a9 j9 h9; simp [WX11_emit, inW] at h9; simp [WX11_comesOut, inW]; omega)) fun q3 hq3 => ?_
        exact hB q3 hq3
set_option maxRecDepth 100000 in
theorem frX11_comesOut_0   (v1 : Int32) (μ0 : Mem)  (K : Mem → Option (Mem)) (hK : ∀  (μ : Mem) (_ : Fr (WX11_comesOut) μ0 μ), FrO (WX11_comesOut) μ0 id (K μ)) : ∀ (n9 : Nat)  (μ : Mem) (_ : Fr (WX11_comesOut) μ0 μ), FrO (WX11_comesOut) μ0 id (fX11_comesOut_0 v1 K n9 μ) := by
  intro n9
  induction n9 with
  | zero => intros; exact fr_none
  | succ n ih =>
    intro μ hμ
    unfold fX11_comesOut_0
    refine fr_if ?_ ?_
    · refine fr_g ?_
      refine fr_nmv fun x1 => ?_
      refine fr_if ?_ ?_
      · exact fr_ret hμ
      · refine fr_if ?_ ?_
        · exact frX11_comesOut_j42_0 v1 x1 μ0 μ hμ _ (fun zm hz => ih zm hz) K hK
        · refine fr_if ?_ ?_
          · exact fr_ret hμ
          · refine fr_if ?_ ?_
            · exact fr_ret hμ
            · exact frX11_comesOut_j42_0 v1 x1 μ0 μ hμ _ (fun zm hz => ih zm hz) K hK
    · exact hK μ hμ
set_option maxRecDepth 100000 in
theorem frX11_comesOut  (a1 : Int32) (μ : Mem) : FrO (WX11_comesOut) μ id (fX11_comesOut a1 μ) := by
  suffices hh : ∀ μ0 : Mem, Fr (WX11_comesOut) μ0 μ → FrO (WX11_comesOut) μ0 id (fX11_comesOut a1 μ) from hh μ Fr.rfl
  intro μ0 hμ
  unfold fX11_comesOut
  refine frX11_comesOut_0 a1 μ0 _ (fun μ7 hμ7 => ?_) FU μ hμ
  exact fr_ret hμ7
