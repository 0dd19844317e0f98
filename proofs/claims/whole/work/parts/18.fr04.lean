def WX11_expression : List (Nat × Nat × Option Nat) := [(243, 1, some 46), (243, 1, some 13), (243, 1, some 14), (243, 1, some 12), (243, 1, some 11), (273, 1, none), (271, 1, none), (272, 1, none), (243, 1, some 42)]
set_option maxRecDepth 100000 in
theorem frX11_expression_j46_23   (v1 : Int32) (μ0 : Mem) (μ : Mem) (hμ : Fr (WX11_expression) μ0 μ) (KB : Mem → Option (Mem)) (hB : ∀  (um : Mem) (_ : Fr (WX11_expression) μ0 um), FrO (WX11_expression) μ0 id (KB um)) (K : Mem → Option (Mem)) (hK : ∀  (um : Mem) (_ : Fr (WX11_expression) μ0 um), FrO (WX11_expression) μ0 id (K um)) : FrO (WX11_expression) μ0 id (fX11_expression_j46_23 KB K v1 μ) := by
  unfold fX11_expression_j46_23
  refine fr_wI hμ (inw_s (by decide)) fun μ3 hμ3 => ?_
  refine fr_bv (frX11_goesOn μ3) hμ3 (by first | exact sub_mem (by decide) | (refine sub_mem ?_; simp [WX11_goesOn, WX11_expression]; done) | (intro a9 j9 h9; simp [WX11_goesOn, inW] at h9; simp [WX11_expression, inW]; omega)) fun q4 hq4 => ?_
  refine fr_g (fr_wI hq4 (inw_n (by decide)) fun μ5 hμ5 => ?_)
  refine fr_wI hμ5 (inw_s (by decide)) fun μ6 hμ6 => ?_
  exact hB μ6 hμ6
set_option maxRecDepth 100000 in
theorem frX11_expression_23   (v1 : Int32) (μ0 : Mem)  (K : Mem → Option (Mem)) (hK : ∀  (μ : Mem) (_ : Fr (WX11_expression) μ0 μ), FrO (WX11_expression) μ0 id (K μ)) : ∀ (n9 : Nat)  (μ : Mem) (_ : Fr (WX11_expression) μ0 μ), FrO (WX11_expression) μ0 id (fX11_expression_23 v1 K n9 μ) := by
  intro n9
  induction n9 with
  | zero => intros; exact fr_none
  | succ n ih =>
    intro μ hμ
    unfold fX11_expression_23
    refine fr_bp fun q2 => ?_
    refine fr_if ?_ ?_
    · refine fr_if ?_ ?_
      · refine fr_bv (frX11_fail 2 μ) hμ (by first | exact sub_mem (by decide) | (refine sub_mem ?_; simp [WX11_fail, WX11_expression]; done) | (intro a9 j9 h9; simp [WX11_fail, inW] at h9; simp [WX11_expression, inW]; omega)) fun q7 hq7 => ?_
        exact frX11_expression_j46_23 v1 μ0 q7 hq7 _ (fun zm hz => ih zm hz) K hK
      · exact frX11_expression_j46_23 v1 μ0 μ hμ _ (fun zm hz => ih zm hz) K hK
    · exact hK μ hμ
set_option maxRecDepth 100000 in
theorem frX11_expression_96   (v1 : Int32) (μ0 : Mem)  (K : Mem → Option (Mem)) (hK : ∀  (μ : Mem) (_ : Fr (WX11_expression) μ0 μ), FrO (WX11_expression) μ0 id (K μ)) : ∀ (n9 : Nat)  (μ : Mem) (_ : Fr (WX11_expression) μ0 μ), FrO (WX11_expression) μ0 id (fX11_expression_96 v1 K n9 μ) := by
  intro n9
  induction n9 with
  | zero => intros; exact fr_none
  | succ n ih =>
    intro μ hμ
    unfold fX11_expression_96
    refine fr_bp fun q10 => ?_
    refine fr_if ?_ ?_
    · refine fr_if ?_ ?_
      · refine fr_bv (frX11_comesOut 0 μ) hμ (by first | exact sub_mem (by decide) | (refine sub_mem ?_; simp [WX11_comesOut, WX11_expression]; done) | (intro a9 j9 h9; simp [WX11_comesOut, inW] at h9; simp [WX11_expression, inW]; omega)) fun q11 hq11 => ?_
        refine fr_wI hq11 (inw_s (by decide)) fun μ12 hμ12 => ?_
        refine fr_wI hμ12 (inw_s (by decide)) fun μ13 hμ13 => ?_
        refine fr_bv (frX11_goesOn μ13) hμ13 (by first | exact sub_mem (by decide) | (refine sub_mem ?_; simp [WX11_goesOn, WX11_expression]; done) | (intro a9 j9 h9; simp [WX11_goesOn, inW] at h9; simp [WX11_expression, inW]; omega)) fun q14 hq14 => ?_
        exact ih q14 hq14
      · exact hK μ hμ
    · exact hK μ hμ
set_option maxRecDepth 100000 in
theorem frX11_expression_j234_12   (v1 : Int32) (v2 : Int32) (s0 : Int32) (μ0 : Mem) (μ : Mem) (hμ : Fr (WX11_expression) μ0 μ) (KB : Int32 → Mem → Option (Mem)) (hB : ∀ (u2 : Int32) (um : Mem) (_ : Fr (WX11_expression) μ0 um), FrO (WX11_expression) μ0 id (KB u2 um)) (K : Mem → Option (Mem)) (hK : ∀  (um : Mem) (_ : Fr (WX11_expression) μ0 um), FrO (WX11_expression) μ0 id (K um)) : FrO (WX11_expression) μ0 id (fX11_expression_j234_12 KB K v1 v2 s0 μ) := by
  unfold fX11_expression_j234_12
  refine fr_bv (frX11_comesOut s0 μ) hμ (by first | exact sub_mem (by decide) | (refine sub_mem ?_; simp [WX11_comesOut, WX11_expression]; done) | (intro a9 j9 h9; simp [WX11_comesOut, inW] at h9; simp [WX11_expression, inW]; omega)) fun q18 hq18 => ?_
  refine fr_g ?_
  refine fr_g (fr_wI hq18 (inw_n (by decide)) fun μ19 hμ19 => ?_)
  refine fr_wI hμ19 (inw_s (by decide)) fun μ20 hμ20 => ?_
  refine fr_bv (frX11_goesOn μ20) hμ20 (by first | exact sub_mem (by decide) | (refine sub_mem ?_; simp [WX11_goesOn, WX11_expression]; done) | (intro a9 j9 h9; simp [WX11_goesOn, inW] at h9; simp [WX11_expression, inW]; omega)) fun q21 hq21 => ?_
  exact hB v2 q21 hq21
set_option maxRecDepth 100000 in
theorem frX11_expression_j186_12   (v1 : Int32) (s0 : Int32) (μ0 : Mem) (μ : Mem) (hμ : Fr (WX11_expression) μ0 μ) (KB : Int32 → Mem → Option (Mem)) (hB : ∀ (u2 : Int32) (um : Mem) (_ : Fr (WX11_expression) μ0 um), FrO (WX11_expression) μ0 id (KB u2 um)) (K : Mem → Option (Mem)) (hK : ∀  (um : Mem) (_ : Fr (WX11_expression) μ0 um), FrO (WX11_expression) μ0 id (K um)) : FrO (WX11_expression) μ0 id (fX11_expression_j186_12 KB K v1 s0 μ) := by
  unfold fX11_expression_j186_12
  refine fr_if ?_ ?_
  · refine fr_if ?_ ?_
    · refine fr_bv (frX11_fail 1 μ) hμ (by first | exact sub_mem (by decide) | (refine sub_mem ?_; simp [WX11_fail, WX11_expression]; done) | (intro a9 j9 h9; simp [WX11_fail, inW] at h9; simp [WX11_expression, inW]; omega)) fun q24 hq24 => ?_
      refine fr_bv (frX11_comesOut 0 q24) hq24 (by first | exact sub_mem (by decide) | (refine sub_mem ?_; simp [WX11_comesOut, WX11_expression]; done) | (intro a9 j9 h9; simp [WX11_comesOut, inW] at h9; simp [WX11_expression, inW]; omega)) fun q25 hq25 => ?_
      exact fr_ret hq25
    · refine fr_bv (frX11_comesOut 0 μ) hμ (by first | exact sub_mem (by decide) | (refine sub_mem ?_; simp [WX11_comesOut, WX11_expression]; done) | (intro a9 j9 h9; simp [WX11_comesOut, inW] at h9; simp [WX11_expression, inW]; omega)) fun q23 hq23 => ?_
      exact fr_ret hq23
  · refine fr_bp fun q17 => ?_
    refine fr_if ?_ ?_
    · exact frX11_expression_j234_12 v1 s0 1 μ0 μ hμ _ (fun z0 zm hz => hB z0 zm hz) K hK
    · refine fr_bp fun q22 => ?_
      refine fr_if ?_ ?_
      · exact frX11_expression_j234_12 v1 s0 1 μ0 μ hμ _ (fun z0 zm hz => hB z0 zm hz) K hK
      · exact frX11_expression_j234_12 v1 s0 0 μ0 μ hμ _ (fun z0 zm hz => hB z0 zm hz) K hK
set_option maxRecDepth 100000 in
theorem frX11_expression_j145_12   (v1 : Int32) (μ0 : Mem) (μ : Mem) (hμ : Fr (WX11_expression) μ0 μ) (KB : Int32 → Mem → Option (Mem)) (hB : ∀ (u2 : Int32) (um : Mem) (_ : Fr (WX11_expression) μ0 um), FrO (WX11_expression) μ0 id (KB u2 um)) (K : Mem → Option (Mem)) (hK : ∀  (um : Mem) (_ : Fr (WX11_expression) μ0 um), FrO (WX11_expression) μ0 id (K um)) : FrO (WX11_expression) μ0 id (fX11_expression_j145_12 KB K v1 μ) := by
  unfold fX11_expression_j145_12
  refine fr_bp fun q16 => ?_
  refine fr_if ?_ ?_
  · exact frX11_expression_j186_12 v1 1 μ0 μ hμ _ (fun z0 zm hz => hB z0 zm hz) K hK
  · refine fr_bp fun q26 => ?_
    refine fr_if ?_ ?_
    · exact frX11_expression_j186_12 v1 1 μ0 μ hμ _ (fun z0 zm hz => hB z0 zm hz) K hK
    · refine fr_bp fun q27 => ?_
      refine fr_if ?_ ?_
      · exact frX11_expression_j186_12 v1 1 μ0 μ hμ _ (fun z0 zm hz => hB z0 zm hz) K hK
      · refine fr_bp fun q28 => ?_
        refine fr_if ?_ ?_
        · exact frX11_expression_j186_12 v1 1 μ0 μ hμ _ (fun z0 zm hz => hB z0 zm hz) K hK
        · exact frX11_expression_j186_12 v1 0 μ0 μ hμ _ (fun z0 zm hz => hB z0 zm hz) K hK
set_option maxRecDepth 100000 in
theorem frX11_expression_12   (v1 : Int32) (μ0 : Mem)  (K : Mem → Option (Mem)) (hK : ∀  (μ : Mem) (_ : Fr (WX11_expression) μ0 μ), FrO (WX11_expression) μ0 id (K μ)) : ∀ (n9 : Nat) (v2 : Int32) (μ : Mem) (_ : Fr (WX11_expression) μ0 μ), FrO (WX11_expression) μ0 id (fX11_expression_12 v1 K n9 v2 μ) := by
  intro n9
  induction n9 with
  | zero => intros; exact fr_none
  | succ n ih =>
    intro v2 μ hμ
    unfold fX11_expression_12
    refine fr_if ?_ ?_
    · exact hK μ hμ
    · refine fr_if ?_ ?_
      · refine frX11_expression_23 v1 μ0 _ (fun μ8 hμ8 => ?_) FU μ hμ
        refine fr_bv (frX11_unit μ8) hμ8 (by first | exact sub_mem (by decide) | (refine sub_mem ?_; simp [WX11_unit, WX11_expression]; done) | (intro a9 j9 h9; simp [WX11_unit, inW] at h9; simp [WX11_expression, inW]; omega)) fun q9 hq9 => ?_
        refine fr_if ?_ ?_
        · exact fr_ret hq9
        · refine frX11_expression_96 v1 μ0 _ (fun μ15 hμ15 => ?_) FU q9 hq9
          exact frX11_expression_j145_12 v1 μ0 μ15 hμ15 _ (fun z0 zm hz => ih z0 zm hz) K hK
      · exact hK μ hμ
set_option maxRecDepth 100000 in
theorem frX11_expression   (μ : Mem) : FrO (WX11_expression) μ id (fX11_expression  μ) := by
  suffices hh : ∀ μ0 : Mem, Fr (WX11_expression) μ0 μ → FrO (WX11_expression) μ0 id (fX11_expression  μ) from hh μ Fr.rfl
  intro μ0 hμ
  unfold fX11_expression
  refine fr_wI hμ (inw_s (by decide)) fun μ1 hμ1 => ?_
  refine frX11_expression_12 (μ1.1 243 12) μ0 _ (fun μ29 hμ29 => ?_) FU 1 μ1 hμ1
  exact fr_ret hμ29
def WX11_term : List (Nat × Nat × Option Nat) := [(269, 1, none), (243, 1, some 46), (243, 1, some 13), (243, 1, some 14), (243, 1, some 12), (243, 1, some 11), (273, 1, none), (271, 1, none), (272, 1, none), (243, 1, some 42), (270, 1, none), (243, 1, some 36)]
set_option maxRecDepth 100000 in
theorem frX11_term   (μ : Mem) : FrO (WX11_term) μ id (fX11_term  μ) := by
  suffices hh : ∀ μ0 : Mem, Fr (WX11_term) μ0 μ → FrO (WX11_term) μ0 id (fX11_term  μ) from hh μ Fr.rfl
  intro μ0 hμ
  unfold fX11_term
  refine fr_g (fr_wI hμ (inw_n (by decide)) fun μ1 hμ1 => ?_)
  refine fr_if ?_ ?_
  · refine fr_bv (frX11_expression μ1) hμ1 (by first | exact sub_mem (by decide) | (refine sub_mem ?_; simp [WX11_expression, WX11_term]; done) | (intro a9 j9 h9; simp [WX11_expression, inW] at h9; simp [WX11_term, inW]; omega)) fun q4 hq4 => ?_
    refine fr_g (fr_wI hq4 (inw_n (by decide)) fun μ5 hμ5 => ?_)
    refine fr_wI hμ5 (inw_s (by decide)) fun μ6 hμ6 => ?_
    exact fr_ret hμ6
  · refine fr_g (fr_wI hμ1 (inw_n (by decide)) fun μ2 hμ2 => ?_)
    refine fr_wI hμ2 (inw_s (by decide)) fun μ3 hμ3 => ?_
    exact fr_ret hμ3
def WX11_tellLaw : List (Nat × Nat × Option Nat) := [(243, 1, some 13), (243, 1, some 14), (243, 1, some 11), (266, 1, none), (267, 1, none), (243, 1, some 46), (243, 1, some 12), (273, 1, none), (271, 1, none), (272, 1, none), (243, 1, some 42), (268, 1, none), (269, 1, none), (270, 1, none), (243, 1, some 36), (264, 1, none), (265, 1, none)]
set_option maxRecDepth 100000 in
theorem frX11_tellLaw_j38_12   (v1 : Int32) (v2 : Int32) (v3 : Int32) (μ0 : Mem) (μ : Mem) (hμ : Fr (WX11_tellLaw) μ0 μ) (KB : Int32 → Mem → Option (Mem)) (hB : ∀ (u3 : Int32) (um : Mem) (_ : Fr (WX11_tellLaw) μ0 um), FrO (WX11_tellLaw) μ0 id (KB u3 um)) (K : Mem → Option (Mem)) (hK : ∀  (um : Mem) (_ : Fr (WX11_tellLaw) μ0 um), FrO (WX11_tellLaw) μ0 id (K um)) : FrO (WX11_tellLaw) μ0 id (fX11_tellLaw_j38_12 KB K v1 v2 v3 μ) := by
  unfold fX11_tellLaw_j38_12
  refine fr_if ?_ ?_
  · exact fr_ret hμ
  · refine fr_bv (frX11_goesOn μ) hμ (by first | exact sub_mem (by decide) | (refine sub_mem ?_; simp [WX11_goesOn, WX11_tellLaw]; done) | (intro a9 j9 h9; simp [WX11_goesOn, inW] at h9; simp [WX11_tellLaw, inW]; omega)) fun q3 hq3 => ?_
    refine fr_g (fr_wI hq3 (inw_n (by decide)) fun μ4 hμ4 => ?_)
    refine fr_g (fr_wI hμ4 (inw_n (by decide)) fun μ5 hμ5 => ?_)
    refine fr_bv (frX11_expression μ5) hμ5 (by first | exact sub_mem (by decide) | (refine sub_mem ?_; simp [WX11_expression, WX11_tellLaw]; done) | (intro a9 j9 h9; simp [WX11_expression, inW] at h9; simp [WX11_tellLaw, inW]; omega)) fun q6 hq6 => ?_
    refine fr_bv (frX11_must 13 q6) hq6 (by first | exact sub_mem (by decide) | (refine sub_mem ?_; simp [WX11_must, WX11_tellLaw]; done) | (intro a9 j9 h9; simp [WX11_must, inW] at h9; simp [WX11_tellLaw, inW]; omega)) fun q7 hq7 => ?_
    refine fr_g (fr_wI hq7 (inw_n (by decide)) fun μ8 hμ8 => ?_)
    refine fr_if ?_ ?_
    · refine fr_bv (frX11_expression μ8) hμ8 (by first | exact sub_mem (by decide) | (refine sub_mem ?_; simp [WX11_expression, WX11_tellLaw]; done) | (intro a9 j9 h9; simp [WX11_expression, inW] at h9; simp [WX11_tellLaw, inW]; omega)) fun q12 hq12 => ?_
      refine fr_bv (frX11_must 30 q12) hq12 (by first | exact sub_mem (by decide) | (refine sub_mem ?_; simp [WX11_must, WX11_tellLaw]; done) | (intro a9 j9 h9; simp [WX11_must, inW] at h9; simp [WX11_tellLaw, inW]; omega)) fun q13 hq13 => ?_
      refine fr_bv (frX11_term q13) hq13 (by first | exact sub_mem (by decide) | (refine sub_mem ?_; simp [WX11_term, WX11_tellLaw]; done) | (intro a9 j9 h9; simp [WX11_term, inW] at h9; simp [WX11_tellLaw, inW]; omega)) fun q14 hq14 => ?_
      refine fr_bv (frX11_must 31 q14) hq14 (by first | exact sub_mem (by decide) | (refine sub_mem ?_; simp [WX11_must, WX11_tellLaw]; done) | (intro a9 j9 h9; simp [WX11_must, inW] at h9; simp [WX11_tellLaw, inW]; omega)) fun q15 hq15 => ?_
      exact hB (v3 + 1) q15 hq15
    · refine fr_bv (frX11_must 30 μ8) hμ8 (by first | exact sub_mem (by decide) | (refine sub_mem ?_; simp [WX11_must, WX11_tellLaw]; done) | (intro a9 j9 h9; simp [WX11_must, inW] at h9; simp [WX11_tellLaw, inW]; omega)) fun q9 hq9 => ?_
      refine fr_bv (frX11_term q9) hq9 (by first | exact sub_mem (by decide) | (refine sub_mem ?_; simp [WX11_term, WX11_tellLaw]; done) | (intro a9 j9 h9; simp [WX11_term, inW] at h9; simp [WX11_tellLaw, inW]; omega)) fun q10 hq10 => ?_
      refine fr_bv (frX11_must 31 q10) hq10 (by first | exact sub_mem (by decide) | (refine sub_mem ?_; simp [WX11_must, WX11_tellLaw]; done) | (intro a9 j9 h9; simp [WX11_must, inW] at h9; simp [WX11_tellLaw, inW]; omega)) fun q11 hq11 => ?_
      exact hB (v3 + 1) q11 hq11
set_option maxRecDepth 100000 in
theorem frX11_tellLaw_12   (v1 : Int32) (v2 : Int32) (μ0 : Mem)  (K : Mem → Option (Mem)) (hK : ∀  (μ : Mem) (_ : Fr (WX11_tellLaw) μ0 μ), FrO (WX11_tellLaw) μ0 id (K μ)) : ∀ (n9 : Nat) (v3 : Int32) (μ : Mem) (_ : Fr (WX11_tellLaw) μ0 μ), FrO (WX11_tellLaw) μ0 id (fX11_tellLaw_12 v1 v2 K n9 v3 μ) := by
  intro n9
  induction n9 with
  | zero => intros; exact fr_none
  | succ n ih =>
    intro v3 μ hμ
    unfold fX11_tellLaw_12
    refine fr_if ?_ ?_
    · refine fr_bp fun q2 => ?_
      refine fr_if ?_ ?_
      · refine fr_if ?_ ?_
        · refine fr_bv (frX11_fail 2 μ) hμ (by first | exact sub_mem (by decide) | (refine sub_mem ?_; simp [WX11_fail, WX11_tellLaw]; done) | (intro a9 j9 h9; simp [WX11_fail, inW] at h9; simp [WX11_tellLaw, inW]; omega)) fun q16 hq16 => ?_
          exact frX11_tellLaw_j38_12 v1 v2 v3 μ0 q16 hq16 _ (fun z0 zm hz => ih z0 zm hz) K hK
        · exact frX11_tellLaw_j38_12 v1 v2 v3 μ0 μ hμ _ (fun z0 zm hz => ih z0 zm hz) K hK
      · exact hK μ hμ
    · exact hK μ hμ
set_option maxRecDepth 100000 in
theorem frX11_tellLaw_j129   (v1 : Int32) (v2 : Int32) (μ0 : Mem) (μ : Mem) (hμ : Fr (WX11_tellLaw) μ0 μ)  : FrO (WX11_tellLaw) μ0 id (fX11_tellLaw_j129 v1 v2 μ) := by
  unfold fX11_tellLaw_j129
  refine fr_g (fr_wI hμ (inw_n (by decide)) fun μ18 hμ18 => ?_)
  refine fr_bv (frX11_term μ18) hμ18 (by first | exact sub_mem (by decide) | (refine sub_mem ?_; simp [WX11_term, WX11_tellLaw]; done) | (intro a9 j9 h9; simp [WX11_term, inW] at h9; simp [WX11_tellLaw, inW]; omega)) fun q19 hq19 => ?_
  refine fr_bv (frX11_must 4 q19) hq19 (by first | exact sub_mem (by decide) | (refine sub_mem ?_; simp [WX11_must, WX11_tellLaw]; done) | (intro a9 j9 h9; simp [WX11_must, inW] at h9; simp [WX11_tellLaw, inW]; omega)) fun q20 hq20 => ?_
  refine fr_if ?_ ?_
  · exact fr_ret hq20
  · refine fr_g (fr_wI hq20 (inw_n (by decide)) fun μ21 hμ21 => ?_)
    refine fr_g (fr_wI hμ21 (inw_n (by decide)) fun μ22 hμ22 => ?_)
    exact fr_ret hμ22
set_option maxRecDepth 100000 in
theorem frX11_tellLaw  (a1 : Int32) (μ : Mem) : FrO (WX11_tellLaw) μ id (fX11_tellLaw a1 μ) := by
  suffices hh : ∀ μ0 : Mem, Fr (WX11_tellLaw) μ0 μ → FrO (WX11_tellLaw) μ0 id (fX11_tellLaw a1 μ) from hh μ Fr.rfl
  intro μ0 hμ
  unfold fX11_tellLaw
  refine fr_bv (frX11_must 5 μ) hμ (by first | exact sub_mem (by decide) | (refine sub_mem ?_; simp [WX11_must, WX11_tellLaw]; done) | (intro a9 j9 h9; simp [WX11_must, inW] at h9; simp [WX11_tellLaw, inW]; omega)) fun q1 hq1 => ?_
  refine frX11_tellLaw_12 a1 (q1.1 243 36) μ0 _ (fun μ17 hμ17 => ?_) FU 0 q1 hq1
  exact frX11_tellLaw_j129 a1 (q1.1 243 36) μ0 μ17 hμ17
def WX11_tellOne : List (Nat × Nat × Option Nat) := [(243, 1, some 13), (243, 1, some 14), (243, 1, some 11), (266, 1, none), (267, 1, none), (243, 1, some 46), (243, 1, some 12), (273, 1, none), (271, 1, none), (272, 1, none), (243, 1, some 42), (268, 1, none), (269, 1, none), (270, 1, none), (243, 1, some 36), (264, 1, none), (265, 1, none), (243, 1, some 15), (243, 1, some 16), (263, 1, none), (262, 1, none), (261, 1, none), (260, 1, none), (257, 1, none), (258, 1, none), (259, 1, none), (251, 1, none), (252, 1, none), (243, 1, some 20), (256, 1, none), (254, 1, none), (255, 1, none), (253, 1, none)]
set_option maxRecDepth 100000 in
theorem frX11_tellOne_j392   (v1 : Int32) (μ0 : Mem) (μ : Mem) (hμ : Fr (WX11_tellOne) μ0 μ)  : FrO (WX11_tellOne) μ0 id (fX11_tellOne_j392 v1 μ) := by
  unfold fX11_tellOne_j392
  refine fr_bv (frX11_fail 1 μ) hμ (by first | exact sub_mem (by decide) | (refine sub_mem ?_; simp [WX11_fail, WX11_tellOne]; done) | (intro a9 j9 h9; simp [WX11_fail, inW] at h9; simp [WX11_tellOne, inW]; omega)) fun q33 hq33 => ?_
  refine fr_if ?_ ?_
  · exact fr_ret hq33
  · refine fr_bv (frX11_goesOn q33) hq33 (by first | exact sub_mem (by decide) | (refine sub_mem ?_; simp [WX11_goesOn, WX11_tellOne]; done) | (intro a9 j9 h9; simp [WX11_goesOn, inW] at h9; simp [WX11_tellOne, inW]; omega)) fun q34 hq34 => ?_
    refine fr_bv (frX11_tellLaw v1 q34) hq34 (by first | exact sub_mem (by decide) | (refine sub_mem ?_; simp [WX11_tellLaw, WX11_tellOne]; done) | (intro a9 j9 h9; simp [WX11_tellLaw, inW] at h9; simp [WX11_tellOne, inW]; omega)) fun q35 hq35 => ?_
    exact fr_ret hq35
set_option maxRecDepth 100000 in
theorem frX11_tellOne   (μ : Mem) : FrO (WX11_tellOne) μ id (fX11_tellOne  μ) := by
  suffices hh : ∀ μ0 : Mem, Fr (WX11_tellOne) μ0 μ → FrO (WX11_tellOne) μ0 id (fX11_tellOne  μ) from hh μ Fr.rfl
  intro μ0 hμ
  unfold fX11_tellOne
  refine fr_g ?_
  refine fr_if ?_ ?_
  · refine fr_g ?_
    refine fr_bv (frX11_roomFor (μ.1 253 (μ.1 243 19).toNatClampNeg) 4 μ) hμ (by first | exact sub_mem (by decide) | (refine sub_mem ?_; simp [WX11_roomFor, WX11_tellOne]; done) | (intro a9 j9 h9; simp [WX11_roomFor, inW] at h9; simp [WX11_tellOne, inW]; omega)) fun q2 hq2 => ?_
    refine fr_if ?_ ?_
    · exact fr_ret hq2
    · refine fr_g ?_
      refine fr_nmv fun x3 => ?_
      refine fr_bm (frX11_named q2) hq2 (by first | exact sub_mem (by decide) | (refine sub_mem ?_; simp [WX11_named, WX11_tellOne]; done) | (intro a9 j9 h9; simp [WX11_named, inW] at h9; simp [WX11_tellOne, inW]; omega)) fun q4 hq4 => ?_
      refine fr_bm (frX11_bounded 1 24 q4.2) hq4 (by first | exact sub_mem (by decide) | (refine sub_mem ?_; simp [WX11_bounded, WX11_tellOne]; done) | (intro a9 j9 h9; simp [WX11_bounded, inW] at h9; simp [WX11_tellOne, inW]; omega)) fun q5 hq5 => ?_
      refine fr_g (fr_wI hq5 (inw_n (by decide)) fun μ6 hμ6 => ?_)
      refine fr_bm (frX11_bounded 0 99 μ6) hμ6 (by first | exact sub_mem (by decide) | (refine sub_mem ?_; simp [WX11_bounded, WX11_tellOne]; done) | (intro a9 j9 h9; simp [WX11_bounded, inW] at h9; simp [WX11_tellOne, inW]; omega)) fun q7 hq7 => ?_
      refine fr_g (fr_wI hq7 (inw_n (by decide)) fun μ8 hμ8 => ?_)
      refine fr_g ?_
      refine fr_bv (frX11_endsName q4.1 (μ8.1 253 (μ8.1 243 19).toNatClampNeg) μ8) hμ8 (by first | exact sub_mem (by decide) | (refine sub_mem ?_; simp [WX11_endsName, WX11_tellOne]; done) | (intro a9 j9 h9; simp [WX11_endsName, inW] at h9; simp [WX11_tellOne, inW]; omega)) fun q9 hq9 => ?_
      refine fr_if ?_ ?_
      · refine fr_g ?_
        refine fr_g (fr_wI hq9 (inw_n (by decide)) fun μ10 hμ10 => ?_)
        exact fr_ret hμ10
      · exact fr_ret hq9
  · refine fr_if ?_ ?_
    · refine fr_g ?_
      refine fr_bv (frX11_roomFor (μ.1 256 (μ.1 243 19).toNatClampNeg) 7 μ) hμ (by first | exact sub_mem (by decide) | (refine sub_mem ?_; simp [WX11_roomFor, WX11_tellOne]; done) | (intro a9 j9 h9; simp [WX11_roomFor, inW] at h9; simp [WX11_tellOne, inW]; omega)) fun q12 hq12 => ?_
      refine fr_if ?_ ?_
      · exact fr_ret hq12
      · refine fr_g ?_
        refine fr_nmv fun x13 => ?_
        refine fr_bm (frX11_named q12) hq12 (by first | exact sub_mem (by decide) | (refine sub_mem ?_; simp [WX11_named, WX11_tellOne]; done) | (intro a9 j9 h9; simp [WX11_named, inW] at h9; simp [WX11_tellOne, inW]; omega)) fun q14 hq14 => ?_
        refine fr_bm (frX11_bounded 0 23 q14.2) hq14 (by first | exact sub_mem (by decide) | (refine sub_mem ?_; simp [WX11_bounded, WX11_tellOne]; done) | (intro a9 j9 h9; simp [WX11_bounded, inW] at h9; simp [WX11_tellOne, inW]; omega)) fun q15 hq15 => ?_
        refine fr_g (fr_wI hq15 (inw_n (by decide)) fun μ16 hμ16 => ?_)
        refine fr_bm (frX11_bounded 1 12 μ16) hμ16 (by first | exact sub_mem (by decide) | (refine sub_mem ?_; simp [WX11_bounded, WX11_tellOne]; done) | (intro a9 j9 h9; simp [WX11_bounded, inW] at h9; simp [WX11_tellOne, inW]; omega)) fun q17 hq17 => ?_
        refine fr_g (fr_wI hq17 (inw_n (by decide)) fun μ18 hμ18 => ?_)
        refine fr_bm (frX11_bounded 0 99 μ18) hμ18 (by first | exact sub_mem (by decide) | (refine sub_mem ?_; simp [WX11_bounded, WX11_tellOne]; done) | (intro a9 j9 h9; simp [WX11_bounded, inW] at h9; simp [WX11_tellOne, inW]; omega)) fun q19 hq19 => ?_
        refine fr_g (fr_wI hq19 (inw_n (by decide)) fun μ20 hμ20 => ?_)
        refine fr_g ?_
        refine fr_bv (frX11_endsName q14.1 (10 + (μ20.1 256 (μ20.1 243 19).toNatClampNeg)) μ20) hμ20 (by first | exact sub_mem (by decide) | (refine sub_mem ?_; simp [WX11_endsName, WX11_tellOne]; done) | (intro a9 j9 h9; simp [WX11_endsName, inW] at h9; simp [WX11_tellOne, inW]; omega)) fun q21 hq21 => ?_
        refine fr_if ?_ ?_
        · refine fr_g ?_
          refine fr_g (fr_wI hq21 (inw_n (by decide)) fun μ22 hμ22 => ?_)
          exact fr_ret hμ22
        · exact fr_ret hq21
    · refine fr_if ?_ ?_
      · refine fr_g ?_
        refine fr_bv (frX11_roomFor (μ.1 261 (μ.1 243 19).toNatClampNeg) 8 μ) hμ (by first | exact sub_mem (by decide) | (refine sub_mem ?_; simp [WX11_roomFor, WX11_tellOne]; done) | (intro a9 j9 h9; simp [WX11_roomFor, inW] at h9; simp [WX11_tellOne, inW]; omega)) fun q24 hq24 => ?_
        refine fr_if ?_ ?_
        · refine fr_bv (frX11_tellFoes q24) hq24 (by first | exact sub_mem (by decide) | (refine sub_mem ?_; simp [WX11_tellFoes, WX11_tellOne]; done) | (intro a9 j9 h9; simp [WX11_tellFoes, inW] at h9; simp [WX11_tellOne, inW]; omega)) fun q25 hq25 => ?_
          exact fr_ret hq25
        · exact fr_ret hq24
      · refine fr_if ?_ ?_
        · refine fr_bm (frX11_toldInt 1 999 μ) hμ (by first | exact sub_mem (by decide) | (refine sub_mem ?_; simp [WX11_toldInt, WX11_tellOne]; done) | (intro a9 j9 h9; simp [WX11_toldInt, inW] at h9; simp [WX11_tellOne, inW]; omega)) fun q27 hq27 => ?_
          refine fr_g (fr_wI hq27 (inw_n (by decide)) fun μ28 hμ28 => ?_)
          exact fr_ret hμ28
        · refine fr_if ?_ ?_
          · refine fr_bm (frX11_toldInt 0 9999 μ) hμ (by first | exact sub_mem (by decide) | (refine sub_mem ?_; simp [WX11_toldInt, WX11_tellOne]; done) | (intro a9 j9 h9; simp [WX11_toldInt, inW] at h9; simp [WX11_tellOne, inW]; omega)) fun q30 hq30 => ?_
            refine fr_g (fr_wI hq30 (inw_n (by decide)) fun μ31 hμ31 => ?_)
            exact fr_ret hμ31
          · refine fr_g ?_
            refine fr_nmv fun x32 => ?_
            refine fr_if ?_ ?_
            · exact frX11_tellOne_j392 x32 μ0 μ hμ
            · refine fr_g ?_
              refine fr_if ?_ ?_
              · exact frX11_tellOne_j392 x32 μ0 μ hμ
              · refine fr_if ?_ ?_
                · exact fr_ret hμ
                · refine fr_bv (frX11_goesOn μ) hμ (by first | exact sub_mem (by decide) | (refine sub_mem ?_; simp [WX11_goesOn, WX11_tellOne]; done) | (intro a9 j9 h9; simp [WX11_goesOn, inW] at h9; simp [WX11_tellOne, inW]; omega)) fun q36 hq36 => ?_
                  refine fr_bv (frX11_tellLaw x32 q36) hq36 (by first | exact sub_mem (by decide) | (refine sub_mem ?_; simp [WX11_tellLaw, WX11_tellOne]; done) | (intro a9 j9 h9; simp [WX11_tellLaw, inW] at h9; simp [WX11_tellOne, inW]; omega)) fun q37 hq37 => ?_
                  exact fr_ret hq37
def WX11_read : List (Nat × Nat × Option Nat) := [(243, 1, some 4), (245, 1, none), (243, 1, some 2), (243, 1, some 10), (246, 1, none), (247, 1, none), (248, 1, none), (249, 1, none), (243, 1, some 11), (243, 1, some 12), (243, 1, some 13), (243, 1, some 15), (243, 1, some 19), (243, 1, some 20), (253, 1, none), (256, 1, none), (261, 1, none), (262, 1, none), (263, 1, none), (260, 1, none), (264, 1, none), (265, 1, none), (243, 1, some 36), (243, 1, some 42), (243, 1, some 14), (266, 1, none), (267, 1, none), (243, 1, some 46), (273, 1, none), (271, 1, none), (272, 1, none), (268, 1, none), (269, 1, none), (270, 1, none), (243, 1, some 16), (257, 1, none), (258, 1, none), (259, 1, none), (251, 1, none), (252, 1, none), (254, 1, none), (255, 1, none), (243, 1, some 17), (243, 1, some 18), (277, 1, none), (243, 1, some 52), (243, 1, some 53), (276, 1, none), (243, 1, some 56), (243, 1, some 62), (287, 1, none)]
set_option maxRecDepth 100000 in
theorem frX11_read_10    (μ0 : Mem)  (K : Mem → Option (Int32 × Mem)) (hK : ∀  (μ : Mem) (_ : Fr (WX11_read) μ0 μ), FrO (WX11_read) μ0 Prod.snd (K μ)) : ∀ (n9 : Nat) (v1 : Int32) (μ : Mem) (_ : Fr (WX11_read) μ0 μ), FrO (WX11_read) μ0 Prod.snd (fX11_read_10 K n9 v1 μ) := by
  intro n9
  induction n9 with
  | zero => intros; exact fr_none
  | succ n ih =>
    intro v1 μ hμ
    unfold fX11_read_10
    refine fr_if ?_ ?_
    · refine fr_g ?_
      refine fr_g (fr_wI hμ (inw_n (by decide)) fun μ2 hμ2 => ?_)
      exact ih (v1 + 1) μ2 hμ2
    · exact hK μ hμ
set_option maxRecDepth 100000 in
theorem frX11_read_112    (μ0 : Mem)  (K : Mem → Option (Int32 × Mem)) (hK : ∀  (μ : Mem) (_ : Fr (WX11_read) μ0 μ), FrO (WX11_read) μ0 Prod.snd (K μ)) : ∀ (n9 : Nat)  (μ : Mem) (_ : Fr (WX11_read) μ0 μ), FrO (WX11_read) μ0 Prod.snd (fX11_read_112 K n9 μ) := by
  intro n9
  induction n9 with
  | zero => intros; exact fr_none
  | succ n ih =>
    intro μ hμ
    unfold fX11_read_112
    refine fr_if ?_ ?_
    · refine fr_bp fun q15 => ?_
      refine fr_if ?_ ?_
      · exact hK μ hμ
      · refine fr_bv (frX11_tellOne μ) hμ (by first | exact sub_mem (by decide) | (refine sub_mem ?_; simp [WX11_tellOne, WX11_read]; done) | (intro a9 j9 h9; simp [WX11_tellOne, inW] at h9; simp [WX11_read, inW]; omega)) fun q16 hq16 => ?_
        exact ih q16 hq16
    · exact hK μ hμ
set_option maxRecDepth 100000 in
theorem frX11_read_219    (μ0 : Mem)  (K : Mem → Option (Int32 × Mem)) (hK : ∀  (μ : Mem) (_ : Fr (WX11_read) μ0 μ), FrO (WX11_read) μ0 Prod.snd (K μ)) : ∀ (n9 : Nat) (v1 : Int32) (μ : Mem) (_ : Fr (WX11_read) μ0 μ), FrO (WX11_read) μ0 Prod.snd (fX11_read_219 K n9 v1 μ) := by
  intro n9
  induction n9 with
  | zero => intros; exact fr_none
  | succ n ih =>
    intro v1 μ hμ
    unfold fX11_read_219
    refine fr_if ?_ ?_
    · refine fr_g (fr_wI hμ (inw_n (by decide)) fun μ24 hμ24 => ?_)
      exact ih (v1 + 1) μ24 hμ24
    · exact hK μ hμ
set_option maxRecDepth 100000 in
theorem frX11_read_j164   (s0 : Int32) (μ0 : Mem) (μ : Mem) (hμ : Fr (WX11_read) μ0 μ)  : FrO (WX11_read) μ0 Prod.snd (fX11_read_j164 s0 μ) := by
  unfold fX11_read_j164
  refine fr_wI hμ (inw_s (by decide)) fun μ18 hμ18 => ?_
  refine fr_if ?_ ?_
  · exact fr_ret hμ18
  · refine fr_if ?_ ?_
    · exact fr_ret hμ18
    · refine fr_wI hμ18 (inw_s (by decide)) fun μ19 hμ19 => ?_
      refine fr_bv (frX11_begins μ19) hμ19 (by first | exact sub_mem (by decide) | (refine sub_mem ?_; simp [WX11_begins, WX11_read]; done) | (intro a9 j9 h9; simp [WX11_begins, inW] at h9; simp [WX11_read, inW]; omega)) fun q20 hq20 => ?_
      refine fr_bv (frX11_keepsRow q20) hq20 (by first | exact sub_mem (by decide) | (refine sub_mem ?_; simp [WX11_keepsRow, WX11_read]; done) | (intro a9 j9 h9; simp [WX11_keepsRow, inW] at h9; simp [WX11_read, inW]; omega)) fun q21 hq21 => ?_
      refine fr_wI hq21 (inw_s (by decide)) fun μ22 hμ22 => ?_
      refine fr_wI hμ22 (inw_s (by decide)) fun μ23 hμ23 => ?_
      refine frX11_read_219 μ0 _ (fun μ25 hμ25 => ?_) FU 0 μ23 hμ23
      exact fr_ret hμ25
set_option maxRecDepth 100000 in
theorem frX11_read   (μ : Mem) : FrO (WX11_read) μ Prod.snd (fX11_read  μ) := by
  suffices hh : ∀ μ0 : Mem, Fr (WX11_read) μ0 μ → FrO (WX11_read) μ0 Prod.snd (fX11_read  μ) from hh μ Fr.rfl
  intro μ0 hμ
  unfold fX11_read
  refine fr_wI hμ (inw_s (by decide)) fun μ1 hμ1 => ?_
  refine frX11_read_10 μ0 _ (fun μ3 hμ3 => ?_) FU 0 μ1 hμ1
  refine fr_wI hμ3 (inw_s (by decide)) fun μ4 hμ4 => ?_
  refine fr_bv (frX11_cut μ4) hμ4 (by first | exact sub_mem (by decide) | (refine sub_mem ?_; simp [WX11_cut, WX11_read]; done) | (intro a9 j9 h9; simp [WX11_cut, inW] at h9; simp [WX11_read, inW]; omega)) fun q5 hq5 => ?_
  refine fr_wI hq5 (inw_s (by decide)) fun μ6 hμ6 => ?_
  refine fr_wI hμ6 (inw_s (by decide)) fun μ7 hμ7 => ?_
  refine fr_wI hμ7 (inw_s (by decide)) fun μ8 hμ8 => ?_
  refine fr_wI hμ8 (inw_s (by decide)) fun μ9 hμ9 => ?_
  refine fr_wI hμ9 (inw_s (by decide)) fun μ10 hμ10 => ?_
  refine fr_wI hμ10 (inw_s (by decide)) fun μ11 hμ11 => ?_
  refine fr_bv (frX11_plain (μ11.1 243 19) μ11) hμ11 (by first | exact sub_mem (by decide) | (refine sub_mem ?_; simp [WX11_plain, WX11_read]; done) | (intro a9 j9 h9; simp [WX11_plain, inW] at h9; simp [WX11_read, inW]; omega)) fun q12 hq12 => ?_
  refine fr_wI hq12 (inw_s (by decide)) fun μ13 hμ13 => ?_
  refine fr_wI hμ13 (inw_s (by decide)) fun μ14 hμ14 => ?_
  refine frX11_read_112 μ0 _ (fun μ17 hμ17 => ?_) FU μ14 hμ14
  refine fr_if ?_ ?_
  · exact frX11_read_j164 (μ17.1 243 14) μ0 μ17 hμ17
  · refine fr_if ?_ ?_
    · exact frX11_read_j164 (μ17.1 243 16) μ0 μ17 hμ17
    · exact frX11_read_j164 (-1) μ0 μ17 hμ17
def WX11_termOf : List (Nat × Nat × Option Nat) := [(275, 1, none), (243, 1, some 49)]
set_option maxRecDepth 100000 in
theorem frX11_termOf_j104_5   (v2 : Int32) (v3 : Int32) (v4 : Int32) (v5 : Int32) (v6 : Int32) (v7 : Int32) (μ0 : Mem) (μ : Mem) (hμ : Fr (WX11_termOf) μ0 μ) (KB : Int32 → Int32 → Mem → Option (Int32 × Mem)) (hB : ∀ (u3 : Int32) (u4 : Int32) (um : Mem) (_ : Fr (WX11_termOf) μ0 um), FrO (WX11_termOf) μ0 Prod.snd (KB u3 u4 um)) (K : Mem → Option (Int32 × Mem)) (hK : ∀  (um : Mem) (_ : Fr (WX11_termOf) μ0 um), FrO (WX11_termOf) μ0 Prod.snd (K um)) : FrO (WX11_termOf) μ0 Prod.snd (fX11_termOf_j104_5 KB K v2 v3 v4 v5 v6 v7 μ) := by
  unfold fX11_termOf_j104_5
  refine fr_if ?_ ?_
  · refine fr_g (fr_wI hμ (inw_n (by decide)) fun μ7 hμ7 => ?_)
    exact hB v3 (v4 + 1) μ7 hμ7
  · refine fr_if ?_ ?_
    · refine fr_g (fr_wI hμ (inw_n (by decide)) fun μ6 hμ6 => ?_)
      exact hB v3 (v4 + 1) μ6 hμ6
    · refine fr_if ?_ ?_
      · refine fr_g (fr_wI hμ (inw_n (by decide)) fun μ5 hμ5 => ?_)
        exact hB v3 (v4 + 1) μ5 hμ5
      · refine fr_gn ?_
        refine fr_g (fr_wI hμ (inw_n (by decide)) fun μ4 hμ4 => ?_)
        exact hB v3 (v4 + 1) μ4 hμ4
set_option maxRecDepth 100000 in
theorem frX11_termOf_5   (v2 : Int32) (μ0 : Mem)  (K : Mem → Option (Int32 × Mem)) (hK : ∀  (μ : Mem) (_ : Fr (WX11_termOf) μ0 μ), FrO (WX11_termOf) μ0 Prod.snd (K μ)) : ∀ (n9 : Nat) (v3 : Int32) (v4 : Int32) (μ : Mem) (_ : Fr (WX11_termOf) μ0 μ), FrO (WX11_termOf) μ0 Prod.snd (fX11_termOf_5 v2 K n9 v3 v4 μ) := by
  intro n9
  induction n9 with
  | zero => intros; exact fr_none
  | succ n ih =>
    intro v3 v4 μ hμ
    unfold fX11_termOf_5
    refine fr_if ?_ ?_
    · refine fr_g ?_
      refine fr_nmv fun x1 => ?_
      refine fr_if ?_ ?_
      · refine fr_if ?_ ?_
        · refine fr_g ?_
          refine fr_g (fr_wI hμ (inw_n (by decide)) fun μ10 hμ10 => ?_)
          exact ih (v3 + 1) (v4 + 1) μ10 hμ10
        · refine fr_g ?_
          refine fr_g ?_
          refine fr_g (fr_wI hμ (inw_n (by decide)) fun μ9 hμ9 => ?_)
          exact ih (v3 + 1) (v4 + 1) μ9 hμ9
      · refine fr_g ?_
        refine fr_nmv fun x2 => ?_
        refine fr_g ?_
        refine fr_nmv fun x3 => ?_
        refine fr_if ?_ ?_
        · refine fr_if ?_ ?_
          · refine fr_wI hμ (inw_s (by decide)) fun μ8 hμ8 => ?_
            exact fr_ret hμ8
          · exact frX11_termOf_j104_5 v2 (v3 + (-1)) v4 x1 x2 x3 μ0 μ hμ _ (fun z0 z1 zm hz => ih z0 z1 zm hz) K hK
        · exact frX11_termOf_j104_5 v2 (v3 + (-1)) v4 x1 x2 x3 μ0 μ hμ _ (fun z0 z1 zm hz => ih z0 z1 zm hz) K hK
    · exact hK μ hμ
set_option maxRecDepth 100000 in
theorem frX11_termOf  (a1 : Int32) (a2 : Int32) (μ : Mem) : FrO (WX11_termOf) μ Prod.snd (fX11_termOf a1 a2 μ) := by
  suffices hh : ∀ μ0 : Mem, Fr (WX11_termOf) μ0 μ → FrO (WX11_termOf) μ0 Prod.snd (fX11_termOf a1 a2 μ) from hh μ Fr.rfl
  intro μ0 hμ
  unfold fX11_termOf
  refine frX11_termOf_5 a2 μ0 _ (fun μ11 hμ11 => ?_) FU 0 a1 μ hμ
  exact fr_ret hμ11
def WX11_copies : List (Nat × Nat × Option Nat) := [(277, 1, none), (243, 1, some 52), (243, 1, some 53)]
set_option maxRecDepth 100000 in
theorem frX11_copies_2    (μ0 : Mem)  (K : Mem → Option (Mem)) (hK : ∀  (μ : Mem) (_ : Fr (WX11_copies) μ0 μ), FrO (WX11_copies) μ0 id (K μ)) : ∀ (n9 : Nat) (v1 : Int32) (μ : Mem) (_ : Fr (WX11_copies) μ0 μ), FrO (WX11_copies) μ0 id (fX11_copies_2 K n9 v1 μ) := by
  intro n9
  induction n9 with
  | zero => intros; exact fr_none
  | succ n ih =>
    intro v1 μ hμ
    unfold fX11_copies_2
    refine fr_if ?_ ?_
    · refine fr_g ?_
      refine fr_g (fr_wI hμ (inw_n (by decide)) fun μ1 hμ1 => ?_)
      exact ih (v1 + 1) μ1 hμ1
    · exact hK μ hμ
set_option maxRecDepth 100000 in
theorem frX11_copies   (μ : Mem) : FrO (WX11_copies) μ id (fX11_copies  μ) := by
  suffices hh : ∀ μ0 : Mem, Fr (WX11_copies) μ0 μ → FrO (WX11_copies) μ0 id (fX11_copies  μ) from hh μ Fr.rfl
  intro μ0 hμ
  unfold fX11_copies
  refine frX11_copies_2 μ0 _ (fun μ2 hμ2 => ?_) FU 0 μ hμ
  refine fr_g ?_
  refine fr_wI hμ2 (inw_s (by decide)) fun μ3 hμ3 => ?_
  refine fr_wI hμ3 (inw_s (by decide)) fun μ4 hμ4 => ?_
  exact fr_ret hμ4
def WX11_copiesStill : List (Nat × Nat × Option Nat) := [(277, 1, none), (243, 1, some 52), (243, 1, some 53)]
set_option maxRecDepth 100000 in
theorem frX11_copiesStill   (μ : Mem) : FrO (WX11_copiesStill) μ id (fX11_copiesStill  μ) := by
  suffices hh : ∀ μ0 : Mem, Fr (WX11_copiesStill) μ0 μ → FrO (WX11_copiesStill) μ0 id (fX11_copiesStill  μ) from hh μ Fr.rfl
  intro μ0 hμ
  unfold fX11_copiesStill
  refine fr_bv (frX11_copies μ) hμ (by first | exact sub_mem (by decide) | (refine sub_mem ?_; simp [WX11_copies, WX11_copiesStill]; done) | (intro a9 j9 h9; simp [WX11_copies, inW] at h9; simp [WX11_copiesStill, inW]; omega)) fun q1 hq1 => ?_
  refine fr_wI hq1 (inw_s (by decide)) fun μ2 hμ2 => ?_
  exact fr_ret hμ2
def WX11_lawTells : List (Nat × Nat × Option Nat) := [(243, 1, some 49), (275, 1, none)]
set_option maxRecDepth 100000 in
theorem frX11_lawTells_j125   (v4 : Int32) (μ0 : Mem) (μ : Mem) (hμ : Fr (WX11_lawTells) μ0 μ)  : FrO (WX11_lawTells) μ0 Prod.snd (fX11_lawTells_j125 v4 μ) := by
  unfold fX11_lawTells_j125
  refine fr_g ?_
  refine fr_g ?_
  refine fr_bm (frX11_termOf (μ.1 269 v4.toNatClampNeg) (μ.1 270 v4.toNatClampNeg) μ) hμ (by first | exact sub_mem (by decide) | (refine sub_mem ?_; simp [WX11_termOf, WX11_lawTells]; done) | (intro a9 j9 h9; simp [WX11_termOf, inW] at h9; simp [WX11_lawTells, inW]; omega)) fun q4 hq4 => ?_
  refine fr_if ?_ ?_
  · refine fr_bp fun q5 => ?_
    exact fr_ret hq4
  · exact fr_ret hq4
set_option maxRecDepth 100000 in
theorem frX11_lawTells_45   (v3 : Int32) (μ0 : Mem)  (K : Mem → Option (Int32 × Mem)) (hK : ∀  (μ : Mem) (_ : Fr (WX11_lawTells) μ0 μ), FrO (WX11_lawTells) μ0 Prod.snd (K μ)) : ∀ (n9 : Nat) (v4 : Int32) (μ : Mem) (_ : Fr (WX11_lawTells) μ0 μ), FrO (WX11_lawTells) μ0 Prod.snd (fX11_lawTells_45 v3 K n9 v4 μ) := by
  intro n9
  induction n9 with
  | zero => intros; exact fr_none
  | succ n ih =>
    intro v4 μ hμ
    unfold fX11_lawTells_45
    refine fr_g ?_
    refine fr_if ?_ ?_
    · refine fr_g ?_
      refine fr_if ?_ ?_
      · exact frX11_lawTells_j125 v4 μ0 μ hμ
      · refine fr_g ?_
        refine fr_g ?_
        refine fr_bm (frX11_termOf (μ.1 267 v4.toNatClampNeg) (μ.1 268 v4.toNatClampNeg) μ) hμ (by first | exact sub_mem (by decide) | (refine sub_mem ?_; simp [WX11_termOf, WX11_lawTells]; done) | (intro a9 j9 h9; simp [WX11_termOf, inW] at h9; simp [WX11_lawTells, inW]; omega)) fun q6 hq6 => ?_
        refine fr_g ?_
        refine fr_g ?_
        refine fr_bm (frX11_termOf (q6.2.1 268 v4.toNatClampNeg) (q6.2.1 269 v4.toNatClampNeg) q6.2) hq6 (by first | exact sub_mem (by decide) | (refine sub_mem ?_; simp [WX11_termOf, WX11_lawTells]; done) | (intro a9 j9 h9; simp [WX11_termOf, inW] at h9; simp [WX11_lawTells, inW]; omega)) fun q7 hq7 => ?_
        refine fr_if ?_ ?_
        · refine fr_if ?_ ?_
          · exact frX11_lawTells_j125 v4 μ0 q7.2 hq7
          · exact ih (v4 + 1) q7.2 hq7
        · exact fr_ret hq7
    · exact hK μ hμ
set_option maxRecDepth 100000 in
theorem frX11_lawTells  (a1 : Int32) (a2 : Int32) (μ : Mem) : FrO (WX11_lawTells) μ Prod.snd (fX11_lawTells a1 a2 μ) := by
  suffices hh : ∀ μ0 : Mem, Fr (WX11_lawTells) μ0 μ → FrO (WX11_lawTells) μ0 Prod.snd (fX11_lawTells a1 a2 μ) from hh μ Fr.rfl
  intro μ0 hμ
  unfold fX11_lawTells
  refine fr_nmv fun x1 => ?_
  refine fr_g ?_
  refine fr_g ?_
  refine fr_if ?_ ?_
  · refine fr_bp fun q9 => ?_
    exact fr_ret hμ
  · refine fr_wI hμ (inw_s (by decide)) fun μ2 hμ2 => ?_
    refine fr_g ?_
    refine fr_nmv fun x3 => ?_
    refine frX11_lawTells_45 x1 μ0 _ (fun μ8 hμ8 => ?_) FU x3 μ2 hμ2
    exact fr_ret hμ8
def WX11_looksAt : List (Nat × Nat × Option Nat) := [(274, 1, none)]
set_option maxRecDepth 100000 in
theorem frX11_looksAt  (a1 : Int32) (μ : Mem) : FrO (WX11_looksAt) μ id (fX11_looksAt a1 μ) := by
  suffices hh : ∀ μ0 : Mem, Fr (WX11_looksAt) μ0 μ → FrO (WX11_looksAt) μ0 id (fX11_looksAt a1 μ) from hh μ Fr.rfl
  intro μ0 hμ
  unfold fX11_looksAt
  refine fr_g ?_
  refine fr_wI hμ (inw_n (by decide)) fun μ1 hμ1 => ?_
  refine fr_g ?_
  refine fr_wI hμ1 (inw_n (by decide)) fun μ2 hμ2 => ?_
  refine fr_wI hμ2 (inw_n (by decide)) fun μ3 hμ3 => ?_
  exact fr_ret hμ3
def WX11_looks : List (Nat × Nat × Option Nat) := [(274, 1, none)]
set_option maxRecDepth 100000 in
theorem frX11_looks  (a1 : Int32) (a2 : Int32) (a3 : Int32) (μ : Mem) : FrO (WX11_looks) μ id (fX11_looks a1 a2 a3 μ) := by
  suffices hh : ∀ μ0 : Mem, Fr (WX11_looks) μ0 μ → FrO (WX11_looks) μ0 id (fX11_looks a1 a2 a3 μ) from hh μ Fr.rfl
  intro μ0 hμ
  unfold fX11_looks
  refine fr_bv (frX11_looksAt a2 μ) hμ (by first | exact sub_mem (by decide) | (refine sub_mem ?_; simp [WX11_looksAt, WX11_looks]; done) | (intro a9 j9 h9; simp [WX11_looksAt, inW] at h9; simp [WX11_looks, inW]; omega)) fun q1 hq1 => ?_
  refine fr_g ?_
  refine fr_wI hq1 (inw_n (by decide)) fun μ2 hμ2 => ?_
  refine fr_g ?_
  refine fr_wI hμ2 (inw_n (by decide)) fun μ3 hμ3 => ?_
  refine fr_bp fun q4 => ?_
  refine fr_wI hμ3 (inw_n (by decide)) fun μ5 hμ5 => ?_
  refine fr_g ?_
  refine fr_wI hμ5 (inw_n (by decide)) fun μ6 hμ6 => ?_
  refine fr_wI hμ6 (inw_n (by decide)) fun μ7 hμ7 => ?_
  refine fr_wI hμ7 (inw_n (by decide)) fun μ8 hμ8 => ?_
  exact fr_ret hμ8
def WX11_paysAt : List (Nat × Nat × Option Nat) := [(274, 1, none), (243, 1, some 49), (275, 1, none)]
set_option maxRecDepth 100000 in
theorem frX11_paysAt  (a1 : Int32) (a2 : Int32) (a3 : Int32) (μ : Mem) : FrO (WX11_paysAt) μ Prod.snd (fX11_paysAt a1 a2 a3 μ) := by
  suffices hh : ∀ μ0 : Mem, Fr (WX11_paysAt) μ0 μ → FrO (WX11_paysAt) μ0 Prod.snd (fX11_paysAt a1 a2 a3 μ) from hh μ Fr.rfl
  intro μ0 hμ
  unfold fX11_paysAt
  refine fr_bv (frX11_looks a1 a2 a3 μ) hμ (by first | exact sub_mem (by decide) | (refine sub_mem ?_; simp [WX11_looks, WX11_paysAt]; done) | (intro a9 j9 h9; simp [WX11_looks, inW] at h9; simp [WX11_paysAt, inW]; omega)) fun q1 hq1 => ?_
  refine fr_bm (frX11_lawTells 0 (q1.1 274 0) q1) hq1 (by first | exact sub_mem (by decide) | (refine sub_mem ?_; simp [WX11_lawTells, WX11_paysAt]; done) | (intro a9 j9 h9; simp [WX11_lawTells, inW] at h9; simp [WX11_paysAt, inW]; omega)) fun q2 hq2 => ?_
  exact fr_ret hq2
def WX11_restsAt : List (Nat × Nat × Option Nat) := [(274, 1, none), (243, 1, some 49), (275, 1, none)]
set_option maxRecDepth 100000 in
theorem frX11_restsAt  (a1 : Int32) (a2 : Int32) (a3 : Int32) (μ : Mem) : FrO (WX11_restsAt) μ Prod.snd (fX11_restsAt a1 a2 a3 μ) := by
  suffices hh : ∀ μ0 : Mem, Fr (WX11_restsAt) μ0 μ → FrO (WX11_restsAt) μ0 Prod.snd (fX11_restsAt a1 a2 a3 μ) from hh μ Fr.rfl
  intro μ0 hμ
  unfold fX11_restsAt
  refine fr_bv (frX11_looks a1 a2 a3 μ) hμ (by first | exact sub_mem (by decide) | (refine sub_mem ?_; simp [WX11_looks, WX11_restsAt]; done) | (intro a9 j9 h9; simp [WX11_looks, inW] at h9; simp [WX11_restsAt, inW]; omega)) fun q1 hq1 => ?_
  refine fr_bm (frX11_lawTells 1 (q1.1 274 1) q1) hq1 (by first | exact sub_mem (by decide) | (refine sub_mem ?_; simp [WX11_lawTells, WX11_restsAt]; done) | (intro a9 j9 h9; simp [WX11_lawTells, inW] at h9; simp [WX11_restsAt, inW]; omega)) fun q2 hq2 => ?_
  exact fr_ret hq2
def WX11_looksAll : List (Nat × Nat × Option Nat) := [(274, 1, none)]
set_option maxRecDepth 100000 in
theorem frX11_looksAll  (a1 : Int32) (μ : Mem) : FrO (WX11_looksAll) μ id (fX11_looksAll a1 μ) := by
  suffices hh : ∀ μ0 : Mem, Fr (WX11_looksAll) μ0 μ → FrO (WX11_looksAll) μ0 id (fX11_looksAll a1 μ) from hh μ Fr.rfl
  intro μ0 hμ
  unfold fX11_looksAll
  refine fr_bv (frX11_looksAt a1 μ) hμ (by first | exact sub_mem (by decide) | (refine sub_mem ?_; simp [WX11_looksAt, WX11_looksAll]; done) | (intro a9 j9 h9; simp [WX11_looksAt, inW] at h9; simp [WX11_looksAll, inW]; omega)) fun q1 hq1 => ?_
  refine fr_wI hq1 (inw_n (by decide)) fun μ2 hμ2 => ?_
  refine fr_bp fun q3 => ?_
  refine fr_wI hμ2 (inw_n (by decide)) fun μ4 hμ4 => ?_
  refine fr_wI hμ4 (inw_n (by decide)) fun μ5 hμ5 => ?_
  refine fr_wI hμ5 (inw_n (by decide)) fun μ6 hμ6 => ?_
  refine fr_wI hμ6 (inw_n (by decide)) fun μ7 hμ7 => ?_
  refine fr_bp fun q8 => ?_
  refine fr_bp fun q9 => ?_
  refine fr_wI hμ7 (inw_n (by decide)) fun μ10 hμ10 => ?_
  exact fr_ret hμ10
def WX11_wearsOf : List (Nat × Nat × Option Nat) := [(274, 1, none), (243, 1, some 49), (275, 1, none)]
set_option maxRecDepth 100000 in
theorem frX11_wearsOf  (a1 : Int32) (μ : Mem) : FrO (WX11_wearsOf) μ Prod.snd (fX11_wearsOf a1 μ) := by
  suffices hh : ∀ μ0 : Mem, Fr (WX11_wearsOf) μ0 μ → FrO (WX11_wearsOf) μ0 Prod.snd (fX11_wearsOf a1 μ) from hh μ Fr.rfl
  intro μ0 hμ
  unfold fX11_wearsOf
  refine fr_bp fun q1 => ?_
  refine fr_if ?_ ?_
  · exact fr_ret hμ
  · refine fr_bv (frX11_looksAll a1 μ) hμ (by first | exact sub_mem (by decide) | (refine sub_mem ?_; simp [WX11_looksAll, WX11_wearsOf]; done) | (intro a9 j9 h9; simp [WX11_looksAll, inW] at h9; simp [WX11_wearsOf, inW]; omega)) fun q2 hq2 => ?_
    refine fr_bm (frX11_lawTells 2 1 q2) hq2 (by first | exact sub_mem (by decide) | (refine sub_mem ?_; simp [WX11_lawTells, WX11_wearsOf]; done) | (intro a9 j9 h9; simp [WX11_lawTells, inW] at h9; simp [WX11_wearsOf, inW]; omega)) fun q3 hq3 => ?_
    exact fr_ret hq3
def WX11_sellsOf : List (Nat × Nat × Option Nat) := [(274, 1, none), (243, 1, some 49), (275, 1, none)]
set_option maxRecDepth 100000 in
theorem frX11_sellsOf  (a1 : Int32) (μ : Mem) : FrO (WX11_sellsOf) μ Prod.snd (fX11_sellsOf a1 μ) := by
  suffices hh : ∀ μ0 : Mem, Fr (WX11_sellsOf) μ0 μ → FrO (WX11_sellsOf) μ0 Prod.snd (fX11_sellsOf a1 μ) from hh μ Fr.rfl
  intro μ0 hμ
  unfold fX11_sellsOf
  refine fr_bv (frX11_looksAll a1 μ) hμ (by first | exact sub_mem (by decide) | (refine sub_mem ?_; simp [WX11_looksAll, WX11_sellsOf]; done) | (intro a9 j9 h9; simp [WX11_looksAll, inW] at h9; simp [WX11_sellsOf, inW]; omega)) fun q1 hq1 => ?_
  refine fr_bm (frX11_lawTells 3 (q1.1 274 5) q1) hq1 (by first | exact sub_mem (by decide) | (refine sub_mem ?_; simp [WX11_lawTells, WX11_sellsOf]; done) | (intro a9 j9 h9; simp [WX11_lawTells, inW] at h9; simp [WX11_sellsOf, inW]; omega)) fun q2 hq2 => ?_
  exact fr_ret hq2
def WX11_paysOf : List (Nat × Nat × Option Nat) := [(274, 1, none), (243, 1, some 49), (275, 1, none)]
set_option maxRecDepth 100000 in
theorem frX11_paysOf  (a1 : Int32) (μ : Mem) : FrO (WX11_paysOf) μ Prod.snd (fX11_paysOf a1 μ) := by
  suffices hh : ∀ μ0 : Mem, Fr (WX11_paysOf) μ0 μ → FrO (WX11_paysOf) μ0 Prod.snd (fX11_paysOf a1 μ) from hh μ Fr.rfl
  intro μ0 hμ
  unfold fX11_paysOf
  refine fr_g ?_
  refine fr_if ?_ ?_
  · exact fr_ret hμ
  · refine fr_g ?_
    refine fr_bp fun q1 => ?_
    refine fr_bm (frX11_paysAt a1 (μ.1 277 a1.toNatClampNeg) q1 μ) hμ (by first | exact sub_mem (by decide) | (refine sub_mem ?_; simp [WX11_paysAt, WX11_paysOf]; done) | (intro a9 j9 h9; simp [WX11_paysAt, inW] at h9; simp [WX11_paysOf, inW]; omega)) fun q2 hq2 => ?_
    exact fr_ret hq2
def WX11_restsOf : List (Nat × Nat × Option Nat) := [(274, 1, none), (243, 1, some 49), (275, 1, none)]
set_option maxRecDepth 100000 in
theorem frX11_restsOf  (a1 : Int32) (μ : Mem) : FrO (WX11_restsOf) μ Prod.snd (fX11_restsOf a1 μ) := by
  suffices hh : ∀ μ0 : Mem, Fr (WX11_restsOf) μ0 μ → FrO (WX11_restsOf) μ0 Prod.snd (fX11_restsOf a1 μ) from hh μ Fr.rfl
  intro μ0 hμ
  unfold fX11_restsOf
  refine fr_g ?_
  refine fr_if ?_ ?_
  · exact fr_ret hμ
  · refine fr_g ?_
    refine fr_bp fun q1 => ?_
    refine fr_bm (frX11_restsAt a1 (μ.1 277 a1.toNatClampNeg) q1 μ) hμ (by first | exact sub_mem (by decide) | (refine sub_mem ?_; simp [WX11_restsAt, WX11_restsOf]; done) | (intro a9 j9 h9; simp [WX11_restsAt, inW] at h9; simp [WX11_restsOf, inW]; omega)) fun q2 hq2 => ?_
    exact fr_ret hq2
def WX11_dueAll : List (Nat × Nat × Option Nat) := [(274, 1, none), (243, 1, some 49), (275, 1, none)]
set_option maxRecDepth 100000 in
theorem frX11_dueAll_4    (μ0 : Mem)  (K : Int32 → Mem → Option (Int32 × Mem)) (hK : ∀ (v1 : Int32) (μ : Mem) (_ : Fr (WX11_dueAll) μ0 μ), FrO (WX11_dueAll) μ0 Prod.snd (K v1 μ)) : ∀ (n9 : Nat) (v1 : Int32) (v2 : Int32) (μ : Mem) (_ : Fr (WX11_dueAll) μ0 μ), FrO (WX11_dueAll) μ0 Prod.snd (fX11_dueAll_4 K n9 v1 v2 μ) := by
  intro n9
  induction n9 with
  | zero => intros; exact fr_none
  | succ n ih =>
    intro v1 v2 μ hμ
    unfold fX11_dueAll_4
    refine fr_g ?_
    refine fr_if ?_ ?_
    · refine fr_bm (frX11_paysOf v2 μ) hμ (by first | exact sub_mem (by decide) | (refine sub_mem ?_; simp [WX11_paysOf, WX11_dueAll]; done) | (intro a9 j9 h9; simp [WX11_paysOf, inW] at h9; simp [WX11_dueAll, inW]; omega)) fun q1 hq1 => ?_
      exact ih (v1 + q1.1) (v2 + 1) q1.2 hq1
    · exact hK v1 μ hμ
set_option maxRecDepth 100000 in
theorem frX11_dueAll   (μ : Mem) : FrO (WX11_dueAll) μ Prod.snd (fX11_dueAll  μ) := by
  suffices hh : ∀ μ0 : Mem, Fr (WX11_dueAll) μ0 μ → FrO (WX11_dueAll) μ0 Prod.snd (fX11_dueAll  μ) from hh μ Fr.rfl
  intro μ0 hμ
  unfold fX11_dueAll
  refine frX11_dueAll_4 μ0 _ (fun y2 μ3 hμ3 => ?_) FU 0 0 μ hμ
  exact fr_ret hμ3
def WX11_restsIn : List (Nat × Nat × Option Nat) := [(277, 1, none)]
set_option maxRecDepth 100000 in
theorem frX11_restsIn  (a1 : Int32) (μ : Mem) : FrO (WX11_restsIn) μ id (fX11_restsIn a1 μ) := by
  suffices hh : ∀ μ0 : Mem, Fr (WX11_restsIn) μ0 μ → FrO (WX11_restsIn) μ0 id (fX11_restsIn a1 μ) from hh μ Fr.rfl
  intro μ0 hμ
  unfold fX11_restsIn
  refine fr_g ?_
  refine fr_if ?_ ?_
  · refine fr_g ?_
    refine fr_if ?_ ?_
    · refine fr_g ?_
      refine fr_bp fun q1 => ?_
      refine fr_g (fr_wI hμ (inw_n (by decide)) fun μ2 hμ2 => ?_)
      exact fr_ret hμ2
    · exact fr_ret hμ
  · refine fr_g ?_
    refine fr_g ?_
    refine fr_bp fun q3 => ?_
    refine fr_g (fr_wI hμ (inw_n (by decide)) fun μ4 hμ4 => ?_)
    exact fr_ret hμ4
def WX11_mayDie : List (Nat × Nat × Option Nat) := [(277, 1, none)]
set_option maxRecDepth 100000 in
theorem frX11_mayDie  (a1 : Int32) (μ : Mem) : FrO (WX11_mayDie) μ id (fX11_mayDie a1 μ) := by
  suffices hh : ∀ μ0 : Mem, Fr (WX11_mayDie) μ0 μ → FrO (WX11_mayDie) μ0 id (fX11_mayDie a1 μ) from hh μ Fr.rfl
  intro μ0 hμ
  unfold fX11_mayDie
  refine fr_if ?_ ?_
  · refine fr_g ?_
    refine fr_if ?_ ?_
    · exact fr_ret hμ
    · refine fr_g ?_
      refine fr_g ?_
      refine fr_if ?_ ?_
      · exact fr_ret hμ
      · refine fr_bp fun q1 => ?_
        refine fr_g ?_
        refine fr_g ?_
        refine fr_if ?_ ?_
        · refine fr_g (fr_wI hμ (inw_n (by decide)) fun μ2 hμ2 => ?_)
          refine fr_g (fr_wI hμ2 (inw_n (by decide)) fun μ3 hμ3 => ?_)
          exact fr_ret hμ3
        · exact fr_ret hμ
  · exact fr_ret hμ
def WX11_weekGoes : List (Nat × Nat × Option Nat) := [(274, 1, none), (243, 1, some 49), (275, 1, none), (278, 1, none), (279, 1, none), (277, 1, none)]
set_option maxRecDepth 100000 in
theorem frX11_weekGoes_7   (v1 : Int32) (μ0 : Mem)  (K : Mem → Option (Mem)) (hK : ∀  (μ : Mem) (_ : Fr (WX11_weekGoes) μ0 μ), FrO (WX11_weekGoes) μ0 id (K μ)) : ∀ (n9 : Nat) (v2 : Int32) (μ : Mem) (_ : Fr (WX11_weekGoes) μ0 μ), FrO (WX11_weekGoes) μ0 id (fX11_weekGoes_7 v1 K n9 v2 μ) := by
  intro n9
  induction n9 with
  | zero => intros; exact fr_none
  | succ n ih =>
    intro v2 μ hμ
    unfold fX11_weekGoes_7
    refine fr_g ?_
    refine fr_if ?_ ?_
    · refine fr_bm (frX11_restsOf v2 μ) hμ (by first | exact sub_mem (by decide) | (refine sub_mem ?_; simp [WX11_restsOf, WX11_weekGoes]; done) | (intro a9 j9 h9; simp [WX11_restsOf, inW] at h9; simp [WX11_weekGoes, inW]; omega)) fun q2 hq2 => ?_
      refine fr_g (fr_wI hq2 (inw_n (by decide)) fun μ3 hμ3 => ?_)
      exact ih (v2 + 1) μ3 hμ3
    · exact hK μ hμ
set_option maxRecDepth 100000 in
theorem frX11_weekGoes_39   (v1 : Int32) (μ0 : Mem)  (K : Mem → Option (Mem)) (hK : ∀  (μ : Mem) (_ : Fr (WX11_weekGoes) μ0 μ), FrO (WX11_weekGoes) μ0 id (K μ)) : ∀ (n9 : Nat) (v2 : Int32) (μ : Mem) (_ : Fr (WX11_weekGoes) μ0 μ), FrO (WX11_weekGoes) μ0 id (fX11_weekGoes_39 v1 K n9 v2 μ) := by
  intro n9
  induction n9 with
  | zero => intros; exact fr_none
  | succ n ih =>
    intro v2 μ hμ
    unfold fX11_weekGoes_39
    refine fr_g ?_
    refine fr_if ?_ ?_
    · refine fr_bm (frX11_wearsOf v2 μ) hμ (by first | exact sub_mem (by decide) | (refine sub_mem ?_; simp [WX11_wearsOf, WX11_weekGoes]; done) | (intro a9 j9 h9; simp [WX11_wearsOf, inW] at h9; simp [WX11_weekGoes, inW]; omega)) fun q5 hq5 => ?_
      refine fr_g (fr_wI hq5 (inw_n (by decide)) fun μ6 hμ6 => ?_)
      exact ih (v2 + 1) μ6 hμ6
    · exact hK μ hμ
set_option maxRecDepth 100000 in
theorem frX11_weekGoes_82    (μ0 : Mem)  (K : Mem → Option (Mem)) (hK : ∀  (μ : Mem) (_ : Fr (WX11_weekGoes) μ0 μ), FrO (WX11_weekGoes) μ0 id (K μ)) : ∀ (n9 : Nat) (v2 : Int32) (μ : Mem) (_ : Fr (WX11_weekGoes) μ0 μ), FrO (WX11_weekGoes) μ0 id (fX11_weekGoes_82 K n9 v2 μ) := by
  intro n9
  induction n9 with
  | zero => intros; exact fr_none
  | succ n ih =>
    intro v2 μ hμ
    unfold fX11_weekGoes_82
    refine fr_g ?_
    refine fr_if ?_ ?_
    · refine fr_bv (frX11_restsIn v2 μ) hμ (by first | exact sub_mem (by decide) | (refine sub_mem ?_; simp [WX11_restsIn, WX11_weekGoes]; done) | (intro a9 j9 h9; simp [WX11_restsIn, inW] at h9; simp [WX11_weekGoes, inW]; omega)) fun q9 hq9 => ?_
      exact ih (v2 + 1) q9 hq9
    · exact hK μ hμ
set_option maxRecDepth 100000 in
theorem frX11_weekGoes_108    (μ0 : Mem)  (K : Mem → Option (Mem)) (hK : ∀  (μ : Mem) (_ : Fr (WX11_weekGoes) μ0 μ), FrO (WX11_weekGoes) μ0 id (K μ)) : ∀ (n9 : Nat) (v2 : Int32) (μ : Mem) (_ : Fr (WX11_weekGoes) μ0 μ), FrO (WX11_weekGoes) μ0 id (fX11_weekGoes_108 K n9 v2 μ) := by
  intro n9
  induction n9 with
  | zero => intros; exact fr_none
  | succ n ih =>
    intro v2 μ hμ
    unfold fX11_weekGoes_108
    refine fr_g ?_
    refine fr_if ?_ ?_
    · refine fr_g ?_
      refine fr_g ?_
      refine fr_bp fun q11 => ?_
      refine fr_g (fr_wI hμ (inw_n (by decide)) fun μ12 hμ12 => ?_)
      exact ih (v2 + 1) μ12 hμ12
    · exact hK μ hμ
set_option maxRecDepth 100000 in
theorem frX11_weekGoes_160    (μ0 : Mem)  (K : Mem → Option (Mem)) (hK : ∀  (μ : Mem) (_ : Fr (WX11_weekGoes) μ0 μ), FrO (WX11_weekGoes) μ0 id (K μ)) : ∀ (n9 : Nat) (v2 : Int32) (μ : Mem) (_ : Fr (WX11_weekGoes) μ0 μ), FrO (WX11_weekGoes) μ0 id (fX11_weekGoes_160 K n9 v2 μ) := by
  intro n9
  induction n9 with
  | zero => intros; exact fr_none
  | succ n ih =>
    intro v2 μ hμ
    unfold fX11_weekGoes_160
    refine fr_g ?_
    refine fr_if ?_ ?_
    · refine fr_bv (frX11_mayDie v2 μ) hμ (by first | exact sub_mem (by decide) | (refine sub_mem ?_; simp [WX11_mayDie, WX11_weekGoes]; done) | (intro a9 j9 h9; simp [WX11_mayDie, inW] at h9; simp [WX11_weekGoes, inW]; omega)) fun q14 hq14 => ?_
      exact ih (v2 + 1) q14 hq14
    · exact hK μ hμ
set_option maxRecDepth 100000 in
theorem frX11_weekGoes   (μ : Mem) : FrO (WX11_weekGoes) μ id (fX11_weekGoes  μ) := by
  suffices hh : ∀ μ0 : Mem, Fr (WX11_weekGoes) μ0 μ → FrO (WX11_weekGoes) μ0 id (fX11_weekGoes  μ) from hh μ Fr.rfl
  intro μ0 hμ
  unfold fX11_weekGoes
  refine fr_bm (frX11_dueAll μ) hμ (by first | exact sub_mem (by decide) | (refine sub_mem ?_; simp [WX11_dueAll, WX11_weekGoes]; done) | (intro a9 j9 h9; simp [WX11_dueAll, inW] at h9; simp [WX11_weekGoes, inW]; omega)) fun q1 hq1 => ?_
  refine frX11_weekGoes_7 q1.1 μ0 _ (fun μ4 hμ4 => ?_) FU 0 q1.2 hq1
  refine frX11_weekGoes_39 q1.1 μ0 _ (fun μ7 hμ7 => ?_) FU 0 μ4 hμ4
  refine fr_wI hμ7 (inw_n (by decide)) fun μ8 hμ8 => ?_
  refine frX11_weekGoes_82 μ0 _ (fun μ10 hμ10 => ?_) FU 0 μ8 hμ8
  refine frX11_weekGoes_108 μ0 _ (fun μ13 hμ13 => ?_) FU 0 μ10 hμ10
  refine frX11_weekGoes_160 μ0 _ (fun μ15 hμ15 => ?_) FU 0 μ13 hμ13
  refine fr_wI hμ15 (inw_n (by decide)) fun μ16 hμ16 => ?_
  exact fr_ret hμ16
def WX11_goes : List (Nat × Nat × Option Nat) := [(274, 1, none), (243, 1, some 49), (275, 1, none), (278, 1, none), (279, 1, none), (277, 1, none)]
set_option maxRecDepth 100000 in
theorem frX11_goes_2   (v1 : Int32) (μ0 : Mem)  (K : Mem → Option (Mem)) (hK : ∀  (μ : Mem) (_ : Fr (WX11_goes) μ0 μ), FrO (WX11_goes) μ0 id (K μ)) : ∀ (n9 : Nat) (v2 : Int32) (μ : Mem) (_ : Fr (WX11_goes) μ0 μ), FrO (WX11_goes) μ0 id (fX11_goes_2 v1 K n9 v2 μ) := by
  intro n9
  induction n9 with
  | zero => intros; exact fr_none
  | succ n ih =>
    intro v2 μ hμ
    unfold fX11_goes_2
    refine fr_if ?_ ?_
    · refine fr_bv (frX11_weekGoes μ) hμ (by first | exact sub_mem (by decide) | (refine sub_mem ?_; simp [WX11_weekGoes, WX11_goes]; done) | (intro a9 j9 h9; simp [WX11_weekGoes, inW] at h9; simp [WX11_goes, inW]; omega)) fun q1 hq1 => ?_
      exact ih (v2 + 1) q1 hq1
    · exact hK μ hμ
set_option maxRecDepth 100000 in
theorem frX11_goes  (a1 : Int32) (μ : Mem) : FrO (WX11_goes) μ id (fX11_goes a1 μ) := by
  suffices hh : ∀ μ0 : Mem, Fr (WX11_goes) μ0 μ → FrO (WX11_goes) μ0 id (fX11_goes a1 μ) from hh μ Fr.rfl
  intro μ0 hμ
  unfold fX11_goes
  refine frX11_goes_2 a1 μ0 _ (fun μ2 hμ2 => ?_) FU 0 μ hμ
  exact fr_ret hμ2
def WX11_sunday : List (Nat × Nat × Option Nat) := [(277, 1, none), (243, 1, some 52), (243, 1, some 53), (274, 1, none), (243, 1, some 49), (275, 1, none)]
set_option maxRecDepth 100000 in
theorem frX11_sunday  (a1 : Int32) (a2 : Int32) (μ : Mem) : FrO (WX11_sunday) μ Prod.snd (fX11_sunday a1 a2 μ) := by
  suffices hh : ∀ μ0 : Mem, Fr (WX11_sunday) μ0 μ → FrO (WX11_sunday) μ0 Prod.snd (fX11_sunday a1 a2 μ) from hh μ Fr.rfl
  intro μ0 hμ
  unfold fX11_sunday
  refine fr_bp fun q1 => ?_
  refine fr_if ?_ ?_
  · refine fr_bv (frX11_copies μ) hμ (by first | exact sub_mem (by decide) | (refine sub_mem ?_; simp [WX11_copies, WX11_sunday]; done) | (intro a9 j9 h9; simp [WX11_copies, inW] at h9; simp [WX11_sunday, inW]; omega)) fun q2 hq2 => ?_
    refine fr_if ?_ ?_
    · refine fr_g ?_
      exact fr_ret hq2
    · refine fr_if ?_ ?_
      · refine fr_g ?_
        exact fr_ret hq2
      · refine fr_if ?_ ?_
        · refine fr_g ?_
          exact fr_ret hq2
        · refine fr_if ?_ ?_
          · refine fr_g ?_
            exact fr_ret hq2
          · refine fr_if ?_ ?_
            · refine fr_bp fun q8 => ?_
              exact fr_ret hq2
            · refine fr_if ?_ ?_
              · refine fr_bm (frX11_wearsOf a1 q2) hq2 (by first | exact sub_mem (by decide) | (refine sub_mem ?_; simp [WX11_wearsOf, WX11_sunday]; done) | (intro a9 j9 h9; simp [WX11_wearsOf, inW] at h9; simp [WX11_sunday, inW]; omega)) fun q10 hq10 => ?_
                exact fr_ret hq10
              · refine fr_if ?_ ?_
                · refine fr_bm (frX11_sellsOf a1 q2) hq2 (by first | exact sub_mem (by decide) | (refine sub_mem ?_; simp [WX11_sellsOf, WX11_sunday]; done) | (intro a9 j9 h9; simp [WX11_sellsOf, inW] at h9; simp [WX11_sunday, inW]; omega)) fun q12 hq12 => ?_
                  exact fr_ret hq12
                · exact fr_ret hq2
  · exact fr_ret hμ
def WX11_guest : List (Nat × Nat × Option Nat) := [(277, 1, none), (243, 1, some 52), (243, 1, some 53), (274, 1, none), (243, 1, some 49), (275, 1, none)]
set_option maxRecDepth 100000 in
theorem frX11_guest  (a1 : Int32) (a2 : Int32) (μ : Mem) : FrO (WX11_guest) μ Prod.snd (fX11_guest a1 a2 μ) := by
  suffices hh : ∀ μ0 : Mem, Fr (WX11_guest) μ0 μ → FrO (WX11_guest) μ0 Prod.snd (fX11_guest a1 a2 μ) from hh μ Fr.rfl
  intro μ0 hμ
  unfold fX11_guest
  refine fr_bp fun q1 => ?_
  refine fr_if ?_ ?_
  · refine fr_bv (frX11_copies μ) hμ (by first | exact sub_mem (by decide) | (refine sub_mem ?_; simp [WX11_copies, WX11_guest]; done) | (intro a9 j9 h9; simp [WX11_copies, inW] at h9; simp [WX11_guest, inW]; omega)) fun q2 hq2 => ?_
    refine fr_if ?_ ?_
    · refine fr_bp fun q4 => ?_
      exact fr_ret hq2
    · refine fr_if ?_ ?_
      · refine fr_g ?_
        exact fr_ret hq2
      · refine fr_if ?_ ?_
        · refine fr_g ?_
          exact fr_ret hq2
        · refine fr_if ?_ ?_
          · refine fr_g ?_
            exact fr_ret hq2
          · refine fr_if ?_ ?_
            · refine fr_g ?_
              exact fr_ret hq2
            · refine fr_if ?_ ?_
              · refine fr_g ?_
                exact fr_ret hq2
              · refine fr_if ?_ ?_
                · refine fr_bm (frX11_paysOf a1 q2) hq2 (by first | exact sub_mem (by decide) | (refine sub_mem ?_; simp [WX11_paysOf, WX11_guest]; done) | (intro a9 j9 h9; simp [WX11_paysOf, inW] at h9; simp [WX11_guest, inW]; omega)) fun q11 hq11 => ?_
                  exact fr_ret hq11
                · refine fr_if ?_ ?_
                  · refine fr_bm (frX11_restsOf a1 q2) hq2 (by first | exact sub_mem (by decide) | (refine sub_mem ?_; simp [WX11_restsOf, WX11_guest]; done) | (intro a9 j9 h9; simp [WX11_restsOf, inW] at h9; simp [WX11_guest, inW]; omega)) fun q13 hq13 => ?_
                    exact fr_ret hq13
                  · exact fr_ret hq2
  · exact fr_ret hμ
def WX11_at : List (Nat × Nat × Option Nat) := [(277, 1, none), (243, 1, some 52), (243, 1, some 53)]
set_option maxRecDepth 100000 in
theorem frX11_at  (a1 : Int32) (a2 : Int32) (μ : Mem) : FrO (WX11_at) μ Prod.snd (fX11_at a1 a2 μ) := by
  suffices hh : ∀ μ0 : Mem, Fr (WX11_at) μ0 μ → FrO (WX11_at) μ0 Prod.snd (fX11_at a1 a2 μ) from hh μ Fr.rfl
  intro μ0 hμ
  unfold fX11_at
  refine fr_bp fun q1 => ?_
  refine fr_if ?_ ?_
  · refine fr_g ?_
    refine fr_bp fun q2 => ?_
    refine fr_if ?_ ?_
    · refine fr_bv (frX11_copies μ) hμ (by first | exact sub_mem (by decide) | (refine sub_mem ?_; simp [WX11_copies, WX11_at]; done) | (intro a9 j9 h9; simp [WX11_copies, inW] at h9; simp [WX11_at, inW]; omega)) fun q3 hq3 => ?_
      refine fr_bp fun q4 => ?_
      exact fr_ret hq3
    · exact fr_ret hμ
  · exact fr_ret hμ
def WX11_records : List (Nat × Nat × Option Nat) := [(280, 1, none), (243, 1, some 56), (276, 1, none)]
set_option maxRecDepth 100000 in
theorem frX11_records_51    (μ0 : Mem)  (K : Mem → Option (Mem)) (hK : ∀  (μ : Mem) (_ : Fr (WX11_records) μ0 μ), FrO (WX11_records) μ0 id (K μ)) : ∀ (n9 : Nat) (v1 : Int32) (μ : Mem) (_ : Fr (WX11_records) μ0 μ), FrO (WX11_records) μ0 id (fX11_records_51 K n9 v1 μ) := by
  intro n9
  induction n9 with
  | zero => intros; exact fr_none
  | succ n ih =>
    intro v1 μ hμ
    unfold fX11_records_51
    refine fr_if ?_ ?_
    · refine fr_g ?_
      refine fr_g (fr_wI hμ (inw_n (by decide)) fun μ1 hμ1 => ?_)
      exact ih (v1 + 1) μ1 hμ1
    · exact hK μ hμ
set_option maxRecDepth 100000 in
theorem frX11_records_11    (μ0 : Mem)  (K : Mem → Option (Mem)) (hK : ∀  (μ : Mem) (_ : Fr (WX11_records) μ0 μ), FrO (WX11_records) μ0 id (K μ)) : ∀ (n9 : Nat) (v1 : Int32) (μ : Mem) (_ : Fr (WX11_records) μ0 μ), FrO (WX11_records) μ0 id (fX11_records_11 K n9 v1 μ) := by
  intro n9
  induction n9 with
  | zero => intros; exact fr_none
  | succ n ih =>
    intro v1 μ hμ
    unfold fX11_records_11
    refine fr_if ?_ ?_
    · refine fr_g ?_
      refine fr_g (fr_wI hμ (inw_n (by decide)) fun μ5 hμ5 => ?_)
      exact ih (v1 + 1) μ5 hμ5
    · exact hK μ hμ
set_option maxRecDepth 100000 in
theorem frX11_records   (μ : Mem) : FrO (WX11_records) μ id (fX11_records  μ) := by
  suffices hh : ∀ μ0 : Mem, Fr (WX11_records) μ0 μ → FrO (WX11_records) μ0 id (fX11_records  μ) from hh μ Fr.rfl
  intro μ0 hμ
  unfold fX11_records
  refine fr_if ?_ ?_
  · refine frX11_records_11 μ0 _ (fun μ6 hμ6 => ?_) FU 0 μ hμ
    refine fr_wI hμ6 (inw_s (by decide)) fun μ7 hμ7 => ?_
    refine frX11_records_51 μ0 _ (fun μ8 hμ8 => ?_) FU 0 μ7 hμ7
    refine fr_wI hμ8 (inw_s (by decide)) fun μ9 hμ9 => ?_
    refine fr_bv (frX11_keepsRow μ9) hμ9 (by first | exact sub_mem (by decide) | (refine sub_mem ?_; simp [WX11_keepsRow, WX11_records]; done) | (intro a9 j9 h9; simp [WX11_keepsRow, inW] at h9; simp [WX11_records, inW]; omega)) fun q10 hq10 => ?_
    exact fr_ret hq10
  · refine frX11_records_51 μ0 _ (fun μ2 hμ2 => ?_) FU 0 μ hμ
    refine fr_wI hμ2 (inw_s (by decide)) fun μ3 hμ3 => ?_
    refine fr_bv (frX11_keepsRow μ3) hμ3 (by first | exact sub_mem (by decide) | (refine sub_mem ?_; simp [WX11_keepsRow, WX11_records]; done) | (intro a9 j9 h9; simp [WX11_keepsRow, inW] at h9; simp [WX11_records, inW]; omega)) fun q4 hq4 => ?_
    exact fr_ret hq4
