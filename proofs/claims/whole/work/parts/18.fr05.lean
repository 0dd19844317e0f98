def WX11_letIn : List (Nat × Nat × Option Nat) := [(277, 1, none), (243, 1, some 52), (243, 1, some 53), (280, 1, none), (243, 1, some 56), (276, 1, none)]
set_option maxRecDepth 100000 in
theorem frX11_letIn  (a1 : Int32) (a2 : Int32) (μ : Mem) : FrO (WX11_letIn) μ Prod.snd (fX11_letIn a1 a2 μ) := by
  suffices hh : ∀ μ0 : Mem, Fr (WX11_letIn) μ0 μ → FrO (WX11_letIn) μ0 Prod.snd (fX11_letIn a1 a2 μ) from hh μ Fr.rfl
  intro μ0 hμ
  unfold fX11_letIn
  refine fr_bp fun q1 => ?_
  refine fr_if ?_ ?_
  · refine fr_bp fun q2 => ?_
    refine fr_if ?_ ?_
    · refine fr_bv (frX11_copies μ) hμ (by first | exact sub_mem (by decide) | (refine sub_mem ?_; simp [WX11_copies, WX11_letIn]; done) | (intro a9 j9 h9; simp [WX11_copies, inW] at h9; simp [WX11_letIn, inW]; omega)) fun q3 hq3 => ?_
      refine fr_g ?_
      refine fr_if ?_ ?_
      · refine fr_bp fun q4 => ?_
        refine fr_if ?_ ?_
        · refine fr_g (fr_wI hq3 (inw_n (by decide)) fun μ5 hμ5 => ?_)
          refine fr_bv (frX11_records μ5) hμ5 (by first | exact sub_mem (by decide) | (refine sub_mem ?_; simp [WX11_records, WX11_letIn]; done) | (intro a9 j9 h9; simp [WX11_records, inW] at h9; simp [WX11_letIn, inW]; omega)) fun q6 hq6 => ?_
          exact fr_ret hq6
        · exact fr_ret hq3
      · exact fr_ret hq3
    · exact fr_ret hμ
  · exact fr_ret hμ
def WX11_putOut : List (Nat × Nat × Option Nat) := [(277, 1, none), (243, 1, some 52), (243, 1, some 53), (280, 1, none), (243, 1, some 56), (276, 1, none)]
set_option maxRecDepth 100000 in
theorem frX11_putOut  (a1 : Int32) (μ : Mem) : FrO (WX11_putOut) μ Prod.snd (fX11_putOut a1 μ) := by
  suffices hh : ∀ μ0 : Mem, Fr (WX11_putOut) μ0 μ → FrO (WX11_putOut) μ0 Prod.snd (fX11_putOut a1 μ) from hh μ Fr.rfl
  intro μ0 hμ
  unfold fX11_putOut
  refine fr_bp fun q1 => ?_
  refine fr_if ?_ ?_
  · refine fr_g ?_
    refine fr_if ?_ ?_
    · exact fr_ret hμ
    · refine fr_bv (frX11_copies μ) hμ (by first | exact sub_mem (by decide) | (refine sub_mem ?_; simp [WX11_copies, WX11_putOut]; done) | (intro a9 j9 h9; simp [WX11_copies, inW] at h9; simp [WX11_putOut, inW]; omega)) fun q2 hq2 => ?_
      refine fr_g (fr_wI hq2 (inw_n (by decide)) fun μ3 hμ3 => ?_)
      refine fr_bv (frX11_records μ3) hμ3 (by first | exact sub_mem (by decide) | (refine sub_mem ?_; simp [WX11_records, WX11_putOut]; done) | (intro a9 j9 h9; simp [WX11_records, inW] at h9; simp [WX11_putOut, inW]; omega)) fun q4 hq4 => ?_
      exact fr_ret hq4
  · exact fr_ret hμ
def WX11_sell : List (Nat × Nat × Option Nat) := [(277, 1, none), (243, 1, some 52), (243, 1, some 53), (274, 1, none), (243, 1, some 49), (275, 1, none), (280, 1, none), (243, 1, some 56), (276, 1, none)]
set_option maxRecDepth 100000 in
theorem frX11_sell  (a1 : Int32) (μ : Mem) : FrO (WX11_sell) μ Prod.snd (fX11_sell a1 μ) := by
  suffices hh : ∀ μ0 : Mem, Fr (WX11_sell) μ0 μ → FrO (WX11_sell) μ0 Prod.snd (fX11_sell a1 μ) from hh μ Fr.rfl
  intro μ0 hμ
  unfold fX11_sell
  refine fr_bp fun q1 => ?_
  refine fr_if ?_ ?_
  · refine fr_bv (frX11_copies μ) hμ (by first | exact sub_mem (by decide) | (refine sub_mem ?_; simp [WX11_copies, WX11_sell]; done) | (intro a9 j9 h9; simp [WX11_copies, inW] at h9; simp [WX11_sell, inW]; omega)) fun q2 hq2 => ?_
    refine fr_g ?_
    refine fr_if ?_ ?_
    · exact fr_ret hq2
    · refine fr_bp fun q3 => ?_
      refine fr_if ?_ ?_
      · refine fr_bm (frX11_sellsOf a1 q2) hq2 (by first | exact sub_mem (by decide) | (refine sub_mem ?_; simp [WX11_sellsOf, WX11_sell]; done) | (intro a9 j9 h9; simp [WX11_sellsOf, inW] at h9; simp [WX11_sell, inW]; omega)) fun q4 hq4 => ?_
        refine fr_g (fr_wI hq4 (inw_n (by decide)) fun μ5 hμ5 => ?_)
        refine fr_wI hμ5 (inw_n (by decide)) fun μ6 hμ6 => ?_
        refine fr_bv (frX11_records μ6) hμ6 (by first | exact sub_mem (by decide) | (refine sub_mem ?_; simp [WX11_records, WX11_sell]; done) | (intro a9 j9 h9; simp [WX11_records, inW] at h9; simp [WX11_sell, inW]; omega)) fun q7 hq7 => ?_
        exact fr_ret hq7
      · exact fr_ret hq2
  · exact fr_ret hμ
def WX11_air : List (Nat × Nat × Option Nat) := [(277, 1, none), (243, 1, some 52), (243, 1, some 53), (280, 1, none), (243, 1, some 56), (276, 1, none)]
set_option maxRecDepth 100000 in
theorem frX11_air  (a1 : Int32) (μ : Mem) : FrO (WX11_air) μ Prod.snd (fX11_air a1 μ) := by
  suffices hh : ∀ μ0 : Mem, Fr (WX11_air) μ0 μ → FrO (WX11_air) μ0 Prod.snd (fX11_air a1 μ) from hh μ Fr.rfl
  intro μ0 hμ
  unfold fX11_air
  refine fr_bp fun q1 => ?_
  refine fr_if ?_ ?_
  · refine fr_bv (frX11_copies μ) hμ (by first | exact sub_mem (by decide) | (refine sub_mem ?_; simp [WX11_copies, WX11_air]; done) | (intro a9 j9 h9; simp [WX11_copies, inW] at h9; simp [WX11_air, inW]; omega)) fun q2 hq2 => ?_
    refine fr_g ?_
    refine fr_if ?_ ?_
    · exact fr_ret hq2
    · refine fr_g ?_
      refine fr_if ?_ ?_
      · exact fr_ret hq2
      · refine fr_bp fun q3 => ?_
        refine fr_if ?_ ?_
        · refine fr_g (fr_wI hq2 (inw_n (by decide)) fun μ4 hμ4 => ?_)
          refine fr_if ?_ ?_
          · refine fr_wI hμ4 (inw_n (by decide)) fun μ6 hμ6 => ?_
            refine fr_bv (frX11_records μ6) hμ6 (by first | exact sub_mem (by decide) | (refine sub_mem ?_; simp [WX11_records, WX11_air]; done) | (intro a9 j9 h9; simp [WX11_records, inW] at h9; simp [WX11_air, inW]; omega)) fun q7 hq7 => ?_
            exact fr_ret hq7
          · refine fr_bv (frX11_records μ4) hμ4 (by first | exact sub_mem (by decide) | (refine sub_mem ?_; simp [WX11_records, WX11_air]; done) | (intro a9 j9 h9; simp [WX11_records, inW] at h9; simp [WX11_air, inW]; omega)) fun q5 hq5 => ?_
            exact fr_ret hq5
        · exact fr_ret hq2
  · exact fr_ret hμ
def WX11_weeks : List (Nat × Nat × Option Nat) := [(277, 1, none), (243, 1, some 52), (243, 1, some 53), (274, 1, none), (243, 1, some 49), (275, 1, none), (278, 1, none), (279, 1, none), (280, 1, none), (243, 1, some 56), (276, 1, none)]
set_option maxRecDepth 100000 in
theorem frX11_weeks  (a1 : Int32) (μ : Mem) : FrO (WX11_weeks) μ Prod.snd (fX11_weeks a1 μ) := by
  suffices hh : ∀ μ0 : Mem, Fr (WX11_weeks) μ0 μ → FrO (WX11_weeks) μ0 Prod.snd (fX11_weeks a1 μ) from hh μ Fr.rfl
  intro μ0 hμ
  unfold fX11_weeks
  refine fr_bp fun q1 => ?_
  refine fr_if ?_ ?_
  · refine fr_if ?_ ?_
    · exact fr_ret hμ
    · refine fr_bv (frX11_copies μ) hμ (by first | exact sub_mem (by decide) | (refine sub_mem ?_; simp [WX11_copies, WX11_weeks]; done) | (intro a9 j9 h9; simp [WX11_copies, inW] at h9; simp [WX11_weeks, inW]; omega)) fun q2 hq2 => ?_
      refine fr_bv (frX11_goes a1 q2) hq2 (by first | exact sub_mem (by decide) | (refine sub_mem ?_; simp [WX11_goes, WX11_weeks]; done) | (intro a9 j9 h9; simp [WX11_goes, inW] at h9; simp [WX11_weeks, inW]; omega)) fun q3 hq3 => ?_
      refine fr_bv (frX11_records q3) hq3 (by first | exact sub_mem (by decide) | (refine sub_mem ?_; simp [WX11_records, WX11_weeks]; done) | (intro a9 j9 h9; simp [WX11_records, inW] at h9; simp [WX11_weeks, inW]; omega)) fun q4 hq4 => ?_
      exact fr_ret hq4
  · exact fr_ret hμ
def WX11_undo : List (Nat × Nat × Option Nat) := [(243, 1, some 56), (276, 1, none)]
set_option maxRecDepth 100000 in
theorem frX11_undo_21    (μ0 : Mem)  (K : Mem → Option (Bool × Mem)) (hK : ∀  (μ : Mem) (_ : Fr (WX11_undo) μ0 μ), FrO (WX11_undo) μ0 Prod.snd (K μ)) : ∀ (n9 : Nat) (v1 : Int32) (μ : Mem) (_ : Fr (WX11_undo) μ0 μ), FrO (WX11_undo) μ0 Prod.snd (fX11_undo_21 K n9 v1 μ) := by
  intro n9
  induction n9 with
  | zero => intros; exact fr_none
  | succ n ih =>
    intro v1 μ hμ
    unfold fX11_undo_21
    refine fr_if ?_ ?_
    · refine fr_g ?_
      refine fr_g (fr_wI hμ (inw_n (by decide)) fun μ2 hμ2 => ?_)
      exact ih (v1 + 1) μ2 hμ2
    · exact hK μ hμ
set_option maxRecDepth 100000 in
theorem frX11_undo   (μ : Mem) : FrO (WX11_undo) μ Prod.snd (fX11_undo  μ) := by
  suffices hh : ∀ μ0 : Mem, Fr (WX11_undo) μ0 μ → FrO (WX11_undo) μ0 Prod.snd (fX11_undo  μ) from hh μ Fr.rfl
  intro μ0 hμ
  unfold fX11_undo
  refine fr_if ?_ ?_
  · exact fr_ret hμ
  · refine fr_wI hμ (inw_s (by decide)) fun μ1 hμ1 => ?_
    refine frX11_undo_21 μ0 _ (fun μ3 hμ3 => ?_) FU 0 μ1 hμ1
    exact fr_ret hμ3
def WX11_valueAt : List (Nat × Nat × Option Nat) := [(274, 1, none), (243, 1, some 49), (275, 1, none)]
set_option maxRecDepth 100000 in
theorem frX11_valueAt  (a1 : Int32) (a2 : Int32) (μ : Mem) : FrO (WX11_valueAt) μ Prod.snd (fX11_valueAt a1 a2 μ) := by
  suffices hh : ∀ μ0 : Mem, Fr (WX11_valueAt) μ0 μ → FrO (WX11_valueAt) μ0 Prod.snd (fX11_valueAt a1 a2 μ) from hh μ Fr.rfl
  intro μ0 hμ
  unfold fX11_valueAt
  refine fr_if ?_ ?_
  · exact fr_ret hμ
  · refine fr_bp fun q1 => ?_
    refine fr_g ?_
    refine fr_nmv fun x2 => ?_
    refine fr_if ?_ ?_
    · exact fr_ret hμ
    · refine fr_g ?_
      refine fr_if ?_ ?_
      · exact fr_ret hμ
      · refine fr_bp fun q3 => ?_
        refine fr_if ?_ ?_
        · refine fr_bp fun q4 => ?_
          refine fr_if ?_ ?_
          · refine fr_bm (frX11_paysAt q1 a1 0 μ) hμ (by first | exact sub_mem (by decide) | (refine sub_mem ?_; simp [WX11_paysAt, WX11_valueAt]; done) | (intro a9 j9 h9; simp [WX11_paysAt, inW] at h9; simp [WX11_valueAt, inW]; omega)) fun q5 hq5 => ?_
            exact fr_ret hq5
          · exact fr_ret hμ
        · exact fr_ret hμ
def WX11_fillsValues : List (Nat × Nat × Option Nat) := [(277, 1, none), (243, 1, some 52), (243, 1, some 53), (274, 1, none), (243, 1, some 49), (275, 1, none), (281, 1, none)]
set_option maxRecDepth 100000 in
theorem frX11_fillsValues_21   (v1 : Int32) (μ0 : Mem)  (K : Mem → Option (Mem)) (hK : ∀  (μ : Mem) (_ : Fr (WX11_fillsValues) μ0 μ), FrO (WX11_fillsValues) μ0 id (K μ)) : ∀ (n9 : Nat) (v2 : Int32) (μ : Mem) (_ : Fr (WX11_fillsValues) μ0 μ), FrO (WX11_fillsValues) μ0 id (fX11_fillsValues_21 v1 K n9 v2 μ) := by
  intro n9
  induction n9 with
  | zero => intros; exact fr_none
  | succ n ih =>
    intro v2 μ hμ
    unfold fX11_fillsValues_21
    refine fr_g ?_
    refine fr_if ?_ ?_
    · refine fr_bm (frX11_valueAt v1 v2 μ) hμ (by first | exact sub_mem (by decide) | (refine sub_mem ?_; simp [WX11_valueAt, WX11_fillsValues]; done) | (intro a9 j9 h9; simp [WX11_valueAt, inW] at h9; simp [WX11_fillsValues, inW]; omega)) fun q2 hq2 => ?_
      refine fr_g (fr_wI hq2 (inw_n (by decide)) fun μ3 hμ3 => ?_)
      exact ih (v2 + 1) μ3 hμ3
    · exact hK μ hμ
set_option maxRecDepth 100000 in
theorem frX11_fillsValues_6    (μ0 : Mem)  (K : Mem → Option (Mem)) (hK : ∀  (μ : Mem) (_ : Fr (WX11_fillsValues) μ0 μ), FrO (WX11_fillsValues) μ0 id (K μ)) : ∀ (n9 : Nat) (v1 : Int32) (μ : Mem) (_ : Fr (WX11_fillsValues) μ0 μ), FrO (WX11_fillsValues) μ0 id (fX11_fillsValues_6 K n9 v1 μ) := by
  intro n9
  induction n9 with
  | zero => intros; exact fr_none
  | succ n ih =>
    intro v1 μ hμ
    unfold fX11_fillsValues_6
    refine fr_g ?_
    refine fr_if ?_ ?_
    · refine frX11_fillsValues_21 v1 μ0 _ (fun μ4 hμ4 => ?_) FU 0 μ hμ
      exact ih (v1 + 1) μ4 hμ4
    · exact hK μ hμ
set_option maxRecDepth 100000 in
theorem frX11_fillsValues   (μ : Mem) : FrO (WX11_fillsValues) μ id (fX11_fillsValues  μ) := by
  suffices hh : ∀ μ0 : Mem, Fr (WX11_fillsValues) μ0 μ → FrO (WX11_fillsValues) μ0 id (fX11_fillsValues  μ) from hh μ Fr.rfl
  intro μ0 hμ
  unfold fX11_fillsValues
  refine fr_bv (frX11_copies μ) hμ (by first | exact sub_mem (by decide) | (refine sub_mem ?_; simp [WX11_copies, WX11_fillsValues]; done) | (intro a9 j9 h9; simp [WX11_copies, inW] at h9; simp [WX11_fillsValues, inW]; omega)) fun q1 hq1 => ?_
  refine frX11_fillsValues_6 μ0 _ (fun μ5 hμ5 => ?_) FU 0 q1 hq1
  exact fr_ret hμ5
def WX11_alone : List (Nat × Nat × Option Nat) := [(277, 1, none), (243, 1, some 52), (243, 1, some 53), (274, 1, none), (243, 1, some 49), (275, 1, none), (281, 1, none)]
set_option maxRecDepth 100000 in
theorem frX11_alone_28   (v1 : Int32) (v2 : Int32) (μ0 : Mem) (μ : Mem) (hμ : Fr (WX11_alone) μ0 μ) (K : Int32 → Option (Int32 × Mem)) (hK : ∀ (v3 : Int32), FrO (WX11_alone) μ0 Prod.snd (K v3)) : ∀ (n9 : Nat) (v3 : Int32) (v4 : Int32), FrO (WX11_alone) μ0 Prod.snd (fX11_alone_28 v1 v2 μ K n9 v3 v4) := by
  intro n9
  induction n9 with
  | zero => intros; exact fr_none
  | succ n ih =>
    intro v3 v4
    unfold fX11_alone_28
    refine fr_g ?_
    refine fr_if ?_ ?_
    · refine fr_g ?_
      refine fr_g ?_
      refine fr_if ?_ ?_
      · exact ih v4 (v4 + 1)
      · exact ih v3 (v4 + 1)
    · exact hK v3
set_option maxRecDepth 100000 in
theorem frX11_alone  (a1 : Int32) (a2 : Int32) (μ : Mem) : FrO (WX11_alone) μ Prod.snd (fX11_alone a1 a2 μ) := by
  suffices hh : ∀ μ0 : Mem, Fr (WX11_alone) μ0 μ → FrO (WX11_alone) μ0 Prod.snd (fX11_alone a1 a2 μ) from hh μ Fr.rfl
  intro μ0 hμ
  unfold fX11_alone
  refine fr_bp fun q1 => ?_
  refine fr_if ?_ ?_
  · refine fr_bp fun q2 => ?_
    refine fr_if ?_ ?_
    · refine fr_bv (frX11_fillsValues μ) hμ (by first | exact sub_mem (by decide) | (refine sub_mem ?_; simp [WX11_fillsValues, WX11_alone]; done) | (intro a9 j9 h9; simp [WX11_fillsValues, inW] at h9; simp [WX11_alone, inW]; omega)) fun q3 hq3 => ?_
      refine frX11_alone_28 a1 a2 μ0 q3 hq3 _ (fun y4 => ?_) FU 0 1
      refine fr_if ?_ ?_
      · refine fr_g ?_
        exact fr_ret hq3
      · exact fr_ret hq3
    · exact fr_ret hμ
  · exact fr_ret hμ
def WX11_fillsBest : List (Nat × Nat × Option Nat) := [(277, 1, none), (243, 1, some 52), (243, 1, some 53), (274, 1, none), (243, 1, some 49), (275, 1, none), (281, 1, none), (282, 1, none)]
set_option maxRecDepth 100000 in
theorem frX11_fillsBest_6    (μ0 : Mem)  (K : Mem → Option (Mem)) (hK : ∀  (μ : Mem) (_ : Fr (WX11_fillsBest) μ0 μ), FrO (WX11_fillsBest) μ0 id (K μ)) : ∀ (n9 : Nat) (v1 : Int32) (μ : Mem) (_ : Fr (WX11_fillsBest) μ0 μ), FrO (WX11_fillsBest) μ0 id (fX11_fillsBest_6 K n9 v1 μ) := by
  intro n9
  induction n9 with
  | zero => intros; exact fr_none
  | succ n ih =>
    intro v1 μ hμ
    unfold fX11_fillsBest_6
    refine fr_if ?_ ?_
    · refine fr_g (fr_wI hμ (inw_n (by decide)) fun μ2 hμ2 => ?_)
      exact ih (v1 + 1) μ2 hμ2
    · exact hK μ hμ
set_option maxRecDepth 100000 in
theorem frX11_fillsBest_63   (v1 : Int32) (v2 : Int32) (μ0 : Mem) (μ : Mem) (hμ : Fr (WX11_fillsBest) μ0 μ) (K : Int32 → Option (Mem)) (hK : ∀ (v3 : Int32), FrO (WX11_fillsBest) μ0 id (K v3)) : ∀ (n9 : Nat) (v3 : Int32) (v4 : Int32), FrO (WX11_fillsBest) μ0 id (fX11_fillsBest_63 v1 v2 μ K n9 v3 v4) := by
  intro n9
  induction n9 with
  | zero => intros; exact fr_none
  | succ n ih =>
    intro v3 v4
    unfold fX11_fillsBest_63
    refine fr_if ?_ ?_
    · exact hK v3
    · refine fr_bp fun q4 => ?_
      refine fr_if ?_ ?_
      · refine fr_bp fun q5 => ?_
        refine fr_if ?_ ?_
        · refine fr_bp fun q6 => ?_
          exact ih q6 (v4 + 1)
        · exact ih v3 (v4 + 1)
      · exact ih v3 (v4 + 1)
set_option maxRecDepth 100000 in
theorem frX11_fillsBest_43   (v1 : Int32) (μ0 : Mem)  (K : Mem → Option (Mem)) (hK : ∀  (μ : Mem) (_ : Fr (WX11_fillsBest) μ0 μ), FrO (WX11_fillsBest) μ0 id (K μ)) : ∀ (n9 : Nat) (v2 : Int32) (μ : Mem) (_ : Fr (WX11_fillsBest) μ0 μ), FrO (WX11_fillsBest) μ0 id (fX11_fillsBest_43 v1 K n9 v2 μ) := by
  intro n9
  induction n9 with
  | zero => intros; exact fr_none
  | succ n ih =>
    intro v2 μ hμ
    unfold fX11_fillsBest_43
    refine fr_g ?_
    refine fr_if ?_ ?_
    · refine frX11_fillsBest_63 v1 v2 μ0 μ hμ _ (fun y7 => ?_) FU 0 0
      refine fr_g (fr_wI hμ (inw_n (by decide)) fun μ8 hμ8 => ?_)
      exact ih (v2 + 1) μ8 hμ8
    · exact hK μ hμ
set_option maxRecDepth 100000 in
theorem frX11_fillsBest_28    (μ0 : Mem)  (K : Mem → Option (Mem)) (hK : ∀  (μ : Mem) (_ : Fr (WX11_fillsBest) μ0 μ), FrO (WX11_fillsBest) μ0 id (K μ)) : ∀ (n9 : Nat) (v1 : Int32) (μ : Mem) (_ : Fr (WX11_fillsBest) μ0 μ), FrO (WX11_fillsBest) μ0 id (fX11_fillsBest_28 K n9 v1 μ) := by
  intro n9
  induction n9 with
  | zero => intros; exact fr_none
  | succ n ih =>
    intro v1 μ hμ
    unfold fX11_fillsBest_28
    refine fr_g ?_
    refine fr_if ?_ ?_
    · refine frX11_fillsBest_43 v1 μ0 _ (fun μ9 hμ9 => ?_) FU 0 μ hμ
      exact ih (v1 + 1) μ9 hμ9
    · exact hK μ hμ
set_option maxRecDepth 100000 in
theorem frX11_fillsBest   (μ : Mem) : FrO (WX11_fillsBest) μ id (fX11_fillsBest  μ) := by
  suffices hh : ∀ μ0 : Mem, Fr (WX11_fillsBest) μ0 μ → FrO (WX11_fillsBest) μ0 id (fX11_fillsBest  μ) from hh μ Fr.rfl
  intro μ0 hμ
  unfold fX11_fillsBest
  refine fr_bv (frX11_fillsValues μ) hμ (by first | exact sub_mem (by decide) | (refine sub_mem ?_; simp [WX11_fillsValues, WX11_fillsBest]; done) | (intro a9 j9 h9; simp [WX11_fillsValues, inW] at h9; simp [WX11_fillsBest, inW]; omega)) fun q1 hq1 => ?_
  refine frX11_fillsBest_6 μ0 _ (fun μ3 hμ3 => ?_) FU 0 q1 hq1
  refine frX11_fillsBest_28 μ0 _ (fun μ10 hμ10 => ?_) FU 0 μ3 hμ3
  exact fr_ret hμ10
def WX11_letting : List (Nat × Nat × Option Nat) := [(277, 1, none), (243, 1, some 52), (243, 1, some 53), (274, 1, none), (243, 1, some 49), (275, 1, none), (281, 1, none), (282, 1, none)]
set_option maxRecDepth 100000 in
theorem frX11_letting_62   (v1 : Int32) (μ0 : Mem) (μ : Mem) (hμ : Fr (WX11_letting) μ0 μ) (K : Int32 → Option (Int32 × Mem)) (hK : ∀ (v2 : Int32), FrO (WX11_letting) μ0 Prod.snd (K v2)) : ∀ (n9 : Nat) (v2 : Int32) (v3 : Int32), FrO (WX11_letting) μ0 Prod.snd (fX11_letting_62 v1 μ K n9 v2 v3) := by
  intro n9
  induction n9 with
  | zero => intros; exact fr_none
  | succ n ih =>
    intro v2 v3
    unfold fX11_letting_62
    refine fr_if ?_ ?_
    · refine fr_bp fun q4 => ?_
      refine fr_nmv fun x5 => ?_
      exact ih x5 (v3 + (-1))
    · exact hK v2
set_option maxRecDepth 100000 in
theorem frX11_letting_j15   (v1 : Int32) (μ0 : Mem) (μ : Mem) (hμ : Fr (WX11_letting) μ0 μ)  : FrO (WX11_letting) μ0 Prod.snd (fX11_letting_j15 v1 μ) := by
  unfold fX11_letting_j15
  refine fr_bv (frX11_fillsBest μ) hμ (by first | exact sub_mem (by decide) | (refine sub_mem ?_; simp [WX11_fillsBest, WX11_letting]; done) | (intro a9 j9 h9; simp [WX11_fillsBest, inW] at h9; simp [WX11_letting, inW]; omega)) fun q1 hq1 => ?_
  refine fr_bp fun q2 => ?_
  refine fr_if ?_ ?_
  · refine fr_g ?_
    refine fr_g ?_
    exact fr_ret hq1
  · refine fr_g ?_
    refine fr_nmv fun x3 => ?_
    refine frX11_letting_62 v1 μ0 q1 hq1 _ (fun y6 => ?_) FU q2 x3
    refine fr_bp fun q7 => ?_
    exact fr_ret hq1
set_option maxRecDepth 100000 in
theorem frX11_letting  (a1 : Int32) (μ : Mem) : FrO (WX11_letting) μ Prod.snd (fX11_letting a1 μ) := by
  suffices hh : ∀ μ0 : Mem, Fr (WX11_letting) μ0 μ → FrO (WX11_letting) μ0 Prod.snd (fX11_letting a1 μ) from hh μ Fr.rfl
  intro μ0 hμ
  unfold fX11_letting
  refine fr_if ?_ ?_
  · exact frX11_letting_j15 a1 μ0 μ hμ
  · refine fr_bp fun q8 => ?_
    refine fr_if ?_ ?_
    · exact frX11_letting_j15 a1 μ0 μ hμ
    · exact fr_ret hμ
def WX11_fewest : List (Nat × Nat × Option Nat) := [(277, 1, none), (243, 1, some 52), (243, 1, some 53), (274, 1, none), (243, 1, some 49), (275, 1, none), (281, 1, none), (283, 1, none)]
set_option maxRecDepth 100000 in
theorem frX11_fewest_45   (v1 : Int32) (v2 : Int32) (v3 : Int32) (v4 : Int32) (μ0 : Mem)  (K : Mem → Option (Int32 × Mem)) (hK : ∀  (μ : Mem) (_ : Fr (WX11_fewest) μ0 μ), FrO (WX11_fewest) μ0 Prod.snd (K μ)) : ∀ (n9 : Nat) (v5 : Int32) (μ : Mem) (_ : Fr (WX11_fewest) μ0 μ), FrO (WX11_fewest) μ0 Prod.snd (fX11_fewest_45 v1 v2 v3 v4 K n9 v5 μ) := by
  intro n9
  induction n9 with
  | zero => intros; exact fr_none
  | succ n ih =>
    intro v5 μ hμ
    unfold fX11_fewest_45
    refine fr_g ?_
    refine fr_if ?_ ?_
    · refine fr_bp fun q4 => ?_
      refine fr_g (fr_wI hμ (inw_n (by decide)) fun μ5 hμ5 => ?_)
      exact ih (v5 + 1) μ5 hμ5
    · exact hK μ hμ
set_option maxRecDepth 100000 in
theorem frX11_fewest_26   (v1 : Int32) (v2 : Int32) (μ0 : Mem)  (K : Int32 → Mem → Option (Int32 × Mem)) (hK : ∀ (v3 : Int32) (μ : Mem) (_ : Fr (WX11_fewest) μ0 μ), FrO (WX11_fewest) μ0 Prod.snd (K v3 μ)) : ∀ (n9 : Nat) (v3 : Int32) (v4 : Int32) (μ : Mem) (_ : Fr (WX11_fewest) μ0 μ), FrO (WX11_fewest) μ0 Prod.snd (fX11_fewest_26 v1 v2 K n9 v3 v4 μ) := by
  intro n9
  induction n9 with
  | zero => intros; exact fr_none
  | succ n ih =>
    intro v3 v4 μ hμ
    unfold fX11_fewest_26
    refine fr_g ?_
    refine fr_if ?_ ?_
    · refine frX11_fewest_45 v1 v2 v3 v4 μ0 _ (fun μ6 hμ6 => ?_) FU 0 μ hμ
      refine fr_g ?_
      refine fr_if ?_ ?_
      · exact ih v3 (v4 + 1) μ6 hμ6
      · refine fr_if ?_ ?_
        · exact ih v4 (v4 + 1) μ6 hμ6
        · refine fr_bp fun q7 => ?_
          refine fr_bp fun q8 => ?_
          refine fr_if ?_ ?_
          · exact ih v4 (v4 + 1) μ6 hμ6
          · exact ih v3 (v4 + 1) μ6 hμ6
    · exact hK v3 μ hμ
set_option maxRecDepth 100000 in
theorem frX11_fewest  (a1 : Int32) (μ : Mem) : FrO (WX11_fewest) μ Prod.snd (fX11_fewest a1 μ) := by
  suffices hh : ∀ μ0 : Mem, Fr (WX11_fewest) μ0 μ → FrO (WX11_fewest) μ0 Prod.snd (fX11_fewest a1 μ) from hh μ Fr.rfl
  intro μ0 hμ
  unfold fX11_fewest
  refine fr_bp fun q1 => ?_
  refine fr_if ?_ ?_
  · refine fr_bv (frX11_fillsValues μ) hμ (by first | exact sub_mem (by decide) | (refine sub_mem ?_; simp [WX11_fillsValues, WX11_fewest]; done) | (intro a9 j9 h9; simp [WX11_fillsValues, inW] at h9; simp [WX11_fewest, inW]; omega)) fun q2 hq2 => ?_
    refine fr_bp fun q3 => ?_
    refine frX11_fewest_26 a1 q3 μ0 _ (fun y9 μ10 hμ10 => ?_) FU (-2) 0 q2 hq2
    refine fr_if ?_ ?_
    · exact fr_ret hμ10
    · refine fr_if ?_ ?_
      · exact fr_ret hμ10
      · refine fr_bp fun q11 => ?_
        exact fr_ret hμ10
  · exact fr_ret hμ
def WX11_colours : List (Nat × Nat × Option Nat) := [(277, 1, none), (243, 1, some 52), (243, 1, some 53), (284, 1, none)]
set_option maxRecDepth 100000 in
theorem frX11_colours_38   (v1 : Int32) (μ0 : Mem)  (K : Mem → Option (Int32 × Mem)) (hK : ∀  (μ : Mem) (_ : Fr (WX11_colours) μ0 μ), FrO (WX11_colours) μ0 Prod.snd (K μ)) : ∀ (n9 : Nat) (v2 : Int32) (μ : Mem) (_ : Fr (WX11_colours) μ0 μ), FrO (WX11_colours) μ0 Prod.snd (fX11_colours_38 v1 K n9 v2 μ) := by
  intro n9
  induction n9 with
  | zero => intros; exact fr_none
  | succ n ih =>
    intro v2 μ hμ
    unfold fX11_colours_38
    refine fr_if ?_ ?_
    · exact hK μ hμ
    · refine fr_bp fun q4 => ?_
      refine fr_if ?_ ?_
      · refine fr_g ?_
        refine fr_g ?_
        refine fr_if ?_ ?_
        · refine fr_bp fun q5 => ?_
          refine fr_if ?_ ?_
          · refine fr_g ?_
            refine fr_g (fr_wI hμ (inw_n (by decide)) fun μ6 hμ6 => ?_)
            exact ih (v2 + 1) μ6 hμ6
          · exact ih (v2 + 1) μ hμ
        · exact ih (v2 + 1) μ hμ
      · exact ih (v2 + 1) μ hμ
set_option maxRecDepth 100000 in
theorem frX11_colours_13    (μ0 : Mem)  (K : Mem → Option (Int32 × Mem)) (hK : ∀  (μ : Mem) (_ : Fr (WX11_colours) μ0 μ), FrO (WX11_colours) μ0 Prod.snd (K μ)) : ∀ (n9 : Nat) (v1 : Int32) (μ : Mem) (_ : Fr (WX11_colours) μ0 μ), FrO (WX11_colours) μ0 Prod.snd (fX11_colours_13 K n9 v1 μ) := by
  intro n9
  induction n9 with
  | zero => intros; exact fr_none
  | succ n ih =>
    intro v1 μ hμ
    unfold fX11_colours_13
    refine fr_g ?_
    refine fr_if ?_ ?_
    · refine fr_g (fr_wI hμ (inw_n (by decide)) fun μ3 hμ3 => ?_)
      refine frX11_colours_38 v1 μ0 _ (fun μ7 hμ7 => ?_) FU 1 μ3 hμ3
      exact ih (v1 + 1) μ7 hμ7
    · exact hK μ hμ
set_option maxRecDepth 100000 in
theorem frX11_colours   (μ : Mem) : FrO (WX11_colours) μ Prod.snd (fX11_colours  μ) := by
  suffices hh : ∀ μ0 : Mem, Fr (WX11_colours) μ0 μ → FrO (WX11_colours) μ0 Prod.snd (fX11_colours  μ) from hh μ Fr.rfl
  intro μ0 hμ
  unfold fX11_colours
  refine fr_bv (frX11_copies μ) hμ (by first | exact sub_mem (by decide) | (refine sub_mem ?_; simp [WX11_copies, WX11_colours]; done) | (intro a9 j9 h9; simp [WX11_copies, inW] at h9; simp [WX11_colours, inW]; omega)) fun q1 hq1 => ?_
  refine fr_wI hq1 (inw_n (by decide)) fun μ2 hμ2 => ?_
  refine frX11_colours_13 μ0 _ (fun μ8 hμ8 => ?_) FU 1 μ2 hμ2
  refine fr_bp fun q9 => ?_
  refine fr_g ?_
  exact fr_ret hμ8
def WX11_tangle : List (Nat × Nat × Option Nat) := [(277, 1, none), (243, 1, some 52), (243, 1, some 53)]
set_option maxRecDepth 100000 in
theorem frX11_tangle_25   (v1 : Int32) (v3 : Int32) (μ0 : Mem) (μ : Mem) (hμ : Fr (WX11_tangle) μ0 μ) (K : Int32 → Option (Int32 × Mem)) (hK : ∀ (v2 : Int32), FrO (WX11_tangle) μ0 Prod.snd (K v2)) : ∀ (n9 : Nat) (v2 : Int32) (v4 : Int32), FrO (WX11_tangle) μ0 Prod.snd (fX11_tangle_25 v1 v3 μ K n9 v2 v4) := by
  intro n9
  induction n9 with
  | zero => intros; exact fr_none
  | succ n ih =>
    intro v2 v4
    unfold fX11_tangle_25
    refine fr_if ?_ ?_
    · exact hK v2
    · refine fr_bp fun q4 => ?_
      refine fr_if ?_ ?_
      · refine fr_bp fun q5 => ?_
        refine fr_bp fun q6 => ?_
        refine fr_if ?_ ?_
        · refine fr_bp fun q7 => ?_
          refine fr_if ?_ ?_
          · exact ih v4 (v4 + 1)
          · exact ih v2 (v4 + 1)
        · exact ih v2 (v4 + 1)
      · exact ih v2 (v4 + 1)
set_option maxRecDepth 100000 in
theorem frX11_tangle  (a1 : Int32) (μ : Mem) : FrO (WX11_tangle) μ Prod.snd (fX11_tangle a1 μ) := by
  suffices hh : ∀ μ0 : Mem, Fr (WX11_tangle) μ0 μ → FrO (WX11_tangle) μ0 Prod.snd (fX11_tangle a1 μ) from hh μ Fr.rfl
  intro μ0 hμ
  unfold fX11_tangle
  refine fr_bp fun q1 => ?_
  refine fr_if ?_ ?_
  · refine fr_bv (frX11_copies μ) hμ (by first | exact sub_mem (by decide) | (refine sub_mem ?_; simp [WX11_copies, WX11_tangle]; done) | (intro a9 j9 h9; simp [WX11_copies, inW] at h9; simp [WX11_tangle, inW]; omega)) fun q2 hq2 => ?_
    refine fr_bp fun q3 => ?_
    refine frX11_tangle_25 a1 q3 μ0 q2 hq2 _ (fun y8 => ?_) FU 0 0
    refine fr_if ?_ ?_
    · refine fr_bp fun q9 => ?_
      exact fr_ret hq2
    · exact fr_ret hq2
  · exact fr_ret hμ
def WX11_fitting : List (Nat × Nat × Option Nat) := [(277, 1, none), (243, 1, some 52), (243, 1, some 53)]
set_option maxRecDepth 100000 in
theorem frX11_fitting  (a1 : Int32) (μ : Mem) : FrO (WX11_fitting) μ Prod.snd (fX11_fitting a1 μ) := by
  suffices hh : ∀ μ0 : Mem, Fr (WX11_fitting) μ0 μ → FrO (WX11_fitting) μ0 Prod.snd (fX11_fitting a1 μ) from hh μ Fr.rfl
  intro μ0 hμ
  unfold fX11_fitting
  refine fr_bp fun q1 => ?_
  refine fr_if ?_ ?_
  · refine fr_bv (frX11_copies μ) hμ (by first | exact sub_mem (by decide) | (refine sub_mem ?_; simp [WX11_copies, WX11_fitting]; done) | (intro a9 j9 h9; simp [WX11_copies, inW] at h9; simp [WX11_fitting, inW]; omega)) fun q2 hq2 => ?_
    refine fr_bp fun q3 => ?_
    exact fr_ret hq2
  · exact fr_ret hμ
def WX11_row : List (Nat × Nat × Option Nat) := [(277, 1, none), (243, 1, some 52), (243, 1, some 53)]
set_option maxRecDepth 100000 in
theorem frX11_row_23   (v1 : Int32) (v2 : Int32) (μ0 : Mem) (μ : Mem) (hμ : Fr (WX11_row) μ0 μ) (K : Unit → Option (Int32 × Mem)) (hK : ∀ (_ : Unit), FrO (WX11_row) μ0 Prod.snd (K ())) : ∀ (n9 : Nat) (v3 : Int32) (v4 : Int32), FrO (WX11_row) μ0 Prod.snd (fX11_row_23 v1 v2 μ K n9 v3 v4) := by
  intro n9
  induction n9 with
  | zero => intros; exact fr_none
  | succ n ih =>
    intro v3 v4
    unfold fX11_row_23
    refine fr_if ?_ ?_
    · refine fr_bp fun q3 => ?_
      refine fr_if ?_ ?_
      · exact ih v3 (v4 + 1)
      · refine fr_bp fun q4 => ?_
        refine fr_if ?_ ?_
        · refine fr_if ?_ ?_
          · exact fr_ret hμ
          · exact ih (v3 + 1) (v4 + 1)
        · exact ih v3 (v4 + 1)
    · exact hK ()
set_option maxRecDepth 100000 in
theorem frX11_row  (a1 : Int32) (a2 : Int32) (μ : Mem) : FrO (WX11_row) μ Prod.snd (fX11_row a1 a2 μ) := by
  suffices hh : ∀ μ0 : Mem, Fr (WX11_row) μ0 μ → FrO (WX11_row) μ0 Prod.snd (fX11_row a1 a2 μ) from hh μ Fr.rfl
  intro μ0 hμ
  unfold fX11_row
  refine fr_bp fun q1 => ?_
  refine fr_if ?_ ?_
  · refine fr_if ?_ ?_
    · exact fr_ret hμ
    · refine fr_bv (frX11_copies μ) hμ (by first | exact sub_mem (by decide) | (refine sub_mem ?_; simp [WX11_copies, WX11_row]; done) | (intro a9 j9 h9; simp [WX11_copies, inW] at h9; simp [WX11_row, inW]; omega)) fun q2 hq2 => ?_
      refine frX11_row_23 a1 a2 μ0 q2 hq2 _ (fun _ => ?_) FU 0 0
      exact fr_ret hq2
  · exact fr_ret hμ
def WX11_change : List (Nat × Nat × Option Nat) := [(277, 1, none), (243, 1, some 52), (243, 1, some 53)]
set_option maxRecDepth 100000 in
theorem frX11_change  (a1 : Int32) (a2 : Int32) (μ : Mem) : FrO (WX11_change) μ Prod.snd (fX11_change a1 a2 μ) := by
  suffices hh : ∀ μ0 : Mem, Fr (WX11_change) μ0 μ → FrO (WX11_change) μ0 Prod.snd (fX11_change a1 a2 μ) from hh μ Fr.rfl
  intro μ0 hμ
  unfold fX11_change
  refine fr_bp fun q1 => ?_
  refine fr_if ?_ ?_
  · refine fr_bp fun q2 => ?_
    refine fr_if ?_ ?_
    · refine fr_g ?_
      refine fr_if ?_ ?_
      · exact fr_ret hμ
      · refine fr_g ?_
        refine fr_if ?_ ?_
        · exact fr_ret hμ
        · refine fr_g ?_
          refine fr_g ?_
          refine fr_if ?_ ?_
          · exact fr_ret hμ
          · refine fr_bv (frX11_copies μ) hμ (by first | exact sub_mem (by decide) | (refine sub_mem ?_; simp [WX11_copies, WX11_change]; done) | (intro a9 j9 h9; simp [WX11_copies, inW] at h9; simp [WX11_change, inW]; omega)) fun q3 hq3 => ?_
            refine fr_g (fr_wI hq3 (inw_n (by decide)) fun μ4 hμ4 => ?_)
            refine fr_g (fr_wI hμ4 (inw_n (by decide)) fun μ5 hμ5 => ?_)
            refine fr_g ?_
            refine fr_bp fun q6 => ?_
            refine fr_if ?_ ?_
            · refine fr_g ?_
              refine fr_bp fun q7 => ?_
              refine fr_if ?_ ?_
              · exact fr_ret hμ5
              · exact fr_ret hμ5
            · exact fr_ret hμ5
    · exact fr_ret hμ
  · exact fr_ret hμ
def WX11_room : List (Nat × Nat × Option Nat) := [(277, 1, none), (243, 1, some 52), (243, 1, some 53)]
set_option maxRecDepth 100000 in
theorem frX11_room_26   (v1 : Int32) (μ0 : Mem) (μ : Mem) (hμ : Fr (WX11_room) μ0 μ) (K : Int32 → Option (Int32 × Mem)) (hK : ∀ (v2 : Int32), FrO (WX11_room) μ0 Prod.snd (K v2)) : ∀ (n9 : Nat) (v2 : Int32) (v3 : Int32), FrO (WX11_room) μ0 Prod.snd (fX11_room_26 v1 μ K n9 v2 v3) := by
  intro n9
  induction n9 with
  | zero => intros; exact fr_none
  | succ n ih =>
    intro v2 v3
    unfold fX11_room_26
    refine fr_g ?_
    refine fr_if ?_ ?_
    · refine fr_bp fun q4 => ?_
      refine fr_if ?_ ?_
      · refine fr_nmv fun x5 => ?_
        exact ih x5 (v3 + 1)
      · exact ih v2 (v3 + 1)
    · exact hK v2
set_option maxRecDepth 100000 in
theorem frX11_room  (a1 : Int32) (μ : Mem) : FrO (WX11_room) μ Prod.snd (fX11_room a1 μ) := by
  suffices hh : ∀ μ0 : Mem, Fr (WX11_room) μ0 μ → FrO (WX11_room) μ0 Prod.snd (fX11_room a1 μ) from hh μ Fr.rfl
  intro μ0 hμ
  unfold fX11_room
  refine fr_bp fun q1 => ?_
  refine fr_if ?_ ?_
  · refine fr_bv (frX11_copies μ) hμ (by first | exact sub_mem (by decide) | (refine sub_mem ?_; simp [WX11_copies, WX11_room]; done) | (intro a9 j9 h9; simp [WX11_copies, inW] at h9; simp [WX11_room, inW]; omega)) fun q2 hq2 => ?_
    refine fr_g (fr_wI hq2 (inw_n (by decide)) fun μ3 hμ3 => ?_)
    refine frX11_room_26 a1 μ0 μ3 hμ3 _ (fun y6 => ?_) FU 0 0
    exact fr_ret hμ3
  · exact fr_ret hμ
def WX11_payer : List (Nat × Nat × Option Nat) := [(277, 1, none), (243, 1, some 52), (243, 1, some 53), (274, 1, none), (243, 1, some 49), (275, 1, none)]
set_option maxRecDepth 100000 in
theorem frX11_payer_20   (v1 : Int32) (μ0 : Mem)  (K : Int32 → Mem → Option (Int32 × Mem)) (hK : ∀ (v2 : Int32) (μ : Mem) (_ : Fr (WX11_payer) μ0 μ), FrO (WX11_payer) μ0 Prod.snd (K v2 μ)) : ∀ (n9 : Nat) (v2 : Int32) (v3 : Int32) (μ : Mem) (_ : Fr (WX11_payer) μ0 μ), FrO (WX11_payer) μ0 Prod.snd (fX11_payer_20 v1 K n9 v2 v3 μ) := by
  intro n9
  induction n9 with
  | zero => intros; exact fr_none
  | succ n ih =>
    intro v2 v3 μ hμ
    unfold fX11_payer_20
    refine fr_g ?_
    refine fr_if ?_ ?_
    · refine fr_g ?_
      refine fr_if ?_ ?_
      · exact ih v2 (v3 + 1) μ hμ
      · refine fr_if ?_ ?_
        · exact ih v3 (v3 + 1) μ hμ
        · refine fr_bm (frX11_paysOf v3 μ) hμ (by first | exact sub_mem (by decide) | (refine sub_mem ?_; simp [WX11_paysOf, WX11_payer]; done) | (intro a9 j9 h9; simp [WX11_paysOf, inW] at h9; simp [WX11_payer, inW]; omega)) fun q3 hq3 => ?_
          refine fr_bm (frX11_paysOf v2 q3.2) hq3 (by first | exact sub_mem (by decide) | (refine sub_mem ?_; simp [WX11_paysOf, WX11_payer]; done) | (intro a9 j9 h9; simp [WX11_paysOf, inW] at h9; simp [WX11_payer, inW]; omega)) fun q4 hq4 => ?_
          refine fr_if ?_ ?_
          · exact ih v3 (v3 + 1) q4.2 hq4
          · exact ih v2 (v3 + 1) q4.2 hq4
    · exact hK v2 μ hμ
set_option maxRecDepth 100000 in
theorem frX11_payer  (a1 : Int32) (μ : Mem) : FrO (WX11_payer) μ Prod.snd (fX11_payer a1 μ) := by
  suffices hh : ∀ μ0 : Mem, Fr (WX11_payer) μ0 μ → FrO (WX11_payer) μ0 Prod.snd (fX11_payer a1 μ) from hh μ Fr.rfl
  intro μ0 hμ
  unfold fX11_payer
  refine fr_bp fun q1 => ?_
  refine fr_if ?_ ?_
  · refine fr_bv (frX11_copies μ) hμ (by first | exact sub_mem (by decide) | (refine sub_mem ?_; simp [WX11_copies, WX11_payer]; done) | (intro a9 j9 h9; simp [WX11_copies, inW] at h9; simp [WX11_payer, inW]; omega)) fun q2 hq2 => ?_
    refine frX11_payer_20 a1 μ0 _ (fun y5 μ6 hμ6 => ?_) FU (-2) 0 q2 hq2
    refine fr_if ?_ ?_
    · exact fr_ret hμ6
    · refine fr_if ?_ ?_
      · exact fr_ret hμ6
      · refine fr_bm (frX11_paysOf y5 μ6) hμ6 (by first | exact sub_mem (by decide) | (refine sub_mem ?_; simp [WX11_paysOf, WX11_payer]; done) | (intro a9 j9 h9; simp [WX11_paysOf, inW] at h9; simp [WX11_payer, inW]; omega)) fun q7 hq7 => ?_
        exact fr_ret hq7
  · exact fr_ret hμ
def WX11_idle : List (Nat × Nat × Option Nat) := [(277, 1, none), (243, 1, some 52), (243, 1, some 53)]
set_option maxRecDepth 100000 in
theorem frX11_idle_8    (μ0 : Mem) (μ : Mem) (hμ : Fr (WX11_idle) μ0 μ) (K : Int32 → Option (Int32 × Mem)) (hK : ∀ (v1 : Int32), FrO (WX11_idle) μ0 Prod.snd (K v1)) : ∀ (n9 : Nat) (v1 : Int32) (v2 : Int32), FrO (WX11_idle) μ0 Prod.snd (fX11_idle_8 μ K n9 v1 v2) := by
  intro n9
  induction n9 with
  | zero => intros; exact fr_none
  | succ n ih =>
    intro v1 v2
    unfold fX11_idle_8
    refine fr_g ?_
    refine fr_if ?_ ?_
    · refine fr_g ?_
      refine fr_if ?_ ?_
      · refine fr_g ?_
        refine fr_bp fun q2 => ?_
        refine fr_nmv fun x3 => ?_
        exact ih x3 (v2 + 1)
      · exact ih v1 (v2 + 1)
    · exact hK v1
set_option maxRecDepth 100000 in
theorem frX11_idle   (μ : Mem) : FrO (WX11_idle) μ Prod.snd (fX11_idle  μ) := by
  suffices hh : ∀ μ0 : Mem, Fr (WX11_idle) μ0 μ → FrO (WX11_idle) μ0 Prod.snd (fX11_idle  μ) from hh μ Fr.rfl
  intro μ0 hμ
  unfold fX11_idle
  refine fr_bv (frX11_copies μ) hμ (by first | exact sub_mem (by decide) | (refine sub_mem ?_; simp [WX11_copies, WX11_idle]; done) | (intro a9 j9 h9; simp [WX11_copies, inW] at h9; simp [WX11_idle, inW]; omega)) fun q1 hq1 => ?_
  refine frX11_idle_8 μ0 q1 hq1 _ (fun y4 => ?_) FU 0 0
  exact fr_ret hq1
def WX11_gap : List (Nat × Nat × Option Nat) := [(277, 1, none), (243, 1, some 52), (243, 1, some 53)]
set_option maxRecDepth 100000 in
theorem frX11_gap_35   (v1 : Int32) (v2 : Int32) (μ0 : Mem) (μ : Mem) (hμ : Fr (WX11_gap) μ0 μ) (K : Int32 → Int32 → Option (Int32 × Mem)) (hK : ∀ (v3 : Int32) (v4 : Int32), FrO (WX11_gap) μ0 Prod.snd (K v3 v4)) : ∀ (n9 : Nat) (v3 : Int32) (v4 : Int32) (v5 : Int32) (v6 : Int32), FrO (WX11_gap) μ0 Prod.snd (fX11_gap_35 v1 v2 μ K n9 v3 v4 v5 v6) := by
  intro n9
  induction n9 with
  | zero => intros; exact fr_none
  | succ n ih =>
    intro v3 v4 v5 v6
    unfold fX11_gap_35
    refine fr_g ?_
    refine fr_if ?_ ?_
    · refine fr_bp fun q4 => ?_
      refine fr_if ?_ ?_
      · refine fr_if ?_ ?_
        · refine fr_nmv fun x5 => ?_
          exact ih x5 (v5 + 1) (v5 + 1) (v6 + 1)
        · exact ih v3 v4 (v5 + 1) (v6 + 1)
      · refine fr_if ?_ ?_
        · refine fr_nmv fun x6 => ?_
          exact ih x6 0 0 (v6 + 1)
        · exact ih v3 v4 0 (v6 + 1)
    · exact hK v3 v4
set_option maxRecDepth 100000 in
theorem frX11_gap  (a1 : Int32) (a2 : Int32) (μ : Mem) : FrO (WX11_gap) μ Prod.snd (fX11_gap a1 a2 μ) := by
  suffices hh : ∀ μ0 : Mem, Fr (WX11_gap) μ0 μ → FrO (WX11_gap) μ0 Prod.snd (fX11_gap a1 a2 μ) from hh μ Fr.rfl
  intro μ0 hμ
  unfold fX11_gap
  refine fr_bp fun q1 => ?_
  refine fr_if ?_ ?_
  · refine fr_bp fun q2 => ?_
    refine fr_if ?_ ?_
    · refine fr_bv (frX11_copies μ) hμ (by first | exact sub_mem (by decide) | (refine sub_mem ?_; simp [WX11_copies, WX11_gap]; done) | (intro a9 j9 h9; simp [WX11_copies, inW] at h9; simp [WX11_gap, inW]; omega)) fun q3 hq3 => ?_
      refine frX11_gap_35 a1 a2 μ0 q3 hq3 _ (fun y7 y8 => ?_) FU (-2) 0 0 0
      refine fr_if ?_ ?_
      · exact fr_ret hq3
      · exact fr_ret hq3
    · exact fr_ret hμ
  · exact fr_ret hμ
def WX11_used : List (Nat × Nat × Option Nat) := [(277, 1, none), (243, 1, some 52), (243, 1, some 53), (274, 1, none), (243, 1, some 49), (275, 1, none), (278, 1, none), (279, 1, none)]
set_option maxRecDepth 100000 in
theorem frX11_used_26   (v1 : Int32) (v2 : Int32) (μ0 : Mem)  (K : Mem → Option (Int32 × Mem)) (hK : ∀  (μ : Mem) (_ : Fr (WX11_used) μ0 μ), FrO (WX11_used) μ0 Prod.snd (K μ)) : ∀ (n9 : Nat) (v3 : Int32) (μ : Mem) (_ : Fr (WX11_used) μ0 μ), FrO (WX11_used) μ0 Prod.snd (fX11_used_26 v1 v2 K n9 v3 μ) := by
  intro n9
  induction n9 with
  | zero => intros; exact fr_none
  | succ n ih =>
    intro v3 μ hμ
    unfold fX11_used_26
    refine fr_if ?_ ?_
    · exact hK μ hμ
    · refine fr_g ?_
      refine fr_if ?_ ?_
      · refine fr_bv (frX11_weekGoes μ) hμ (by first | exact sub_mem (by decide) | (refine sub_mem ?_; simp [WX11_weekGoes, WX11_used]; done) | (intro a9 j9 h9; simp [WX11_weekGoes, inW] at h9; simp [WX11_used, inW]; omega)) fun q4 hq4 => ?_
        exact ih (v3 + 1) q4 hq4
      · exact fr_ret hμ
set_option maxRecDepth 100000 in
theorem frX11_used  (a1 : Int32) (a2 : Int32) (μ : Mem) : FrO (WX11_used) μ Prod.snd (fX11_used a1 a2 μ) := by
  suffices hh : ∀ μ0 : Mem, Fr (WX11_used) μ0 μ → FrO (WX11_used) μ0 Prod.snd (fX11_used a1 a2 μ) from hh μ Fr.rfl
  intro μ0 hμ
  unfold fX11_used
  refine fr_bp fun q1 => ?_
  refine fr_if ?_ ?_
  · refine fr_bp fun q2 => ?_
    refine fr_if ?_ ?_
    · refine fr_bv (frX11_copiesStill μ) hμ (by first | exact sub_mem (by decide) | (refine sub_mem ?_; simp [WX11_copiesStill, WX11_used]; done) | (intro a9 j9 h9; simp [WX11_copiesStill, inW] at h9; simp [WX11_used, inW]; omega)) fun q3 hq3 => ?_
      refine frX11_used_26 a1 a2 μ0 _ (fun μ5 hμ5 => ?_) FU 0 q3 hq3
      exact fr_ret hμ5
    · exact fr_ret hμ
  · exact fr_ret hμ
def WX11_first : List (Nat × Nat × Option Nat) := [(277, 1, none), (243, 1, some 52), (243, 1, some 53), (274, 1, none), (243, 1, some 49), (275, 1, none), (278, 1, none), (279, 1, none)]
set_option maxRecDepth 100000 in
theorem frX11_first_25   (v1 : Int32) (v2 : Int32) (μ0 : Mem) (μ : Mem) (hμ : Fr (WX11_first) μ0 μ) (K : Unit → Option (Int32 × Mem)) (hK : ∀ (_ : Unit), FrO (WX11_first) μ0 Prod.snd (K ())) : ∀ (n9 : Nat) (v3 : Int32), FrO (WX11_first) μ0 Prod.snd (fX11_first_25 v1 v2 μ K n9 v3) := by
  intro n9
  induction n9 with
  | zero => intros; exact fr_none
  | succ n ih =>
    intro v3
    unfold fX11_first_25
    refine fr_g ?_
    refine fr_if ?_ ?_
    · refine fr_g ?_
      refine fr_if ?_ ?_
      · refine fr_bp fun q3 => ?_
        refine fr_if ?_ ?_
        · refine fr_if ?_ ?_
          · exact fr_ret hμ
          · exact fr_ret hμ
        · exact ih (v3 + 1)
      · exact ih (v3 + 1)
    · exact hK ()
set_option maxRecDepth 100000 in
theorem frX11_first_17   (v1 : Int32) (μ0 : Mem)  (K : Mem → Option (Int32 × Mem)) (hK : ∀  (μ : Mem) (_ : Fr (WX11_first) μ0 μ), FrO (WX11_first) μ0 Prod.snd (K μ)) : ∀ (n9 : Nat) (v2 : Int32) (μ : Mem) (_ : Fr (WX11_first) μ0 μ), FrO (WX11_first) μ0 Prod.snd (fX11_first_17 v1 K n9 v2 μ) := by
  intro n9
  induction n9 with
  | zero => intros; exact fr_none
  | succ n ih =>
    intro v2 μ hμ
    unfold fX11_first_17
    refine fr_if ?_ ?_
    · exact hK μ hμ
    · refine frX11_first_25 v1 v2 μ0 μ hμ _ (fun _ => ?_) FU 0
      refine fr_bv (frX11_weekGoes μ) hμ (by first | exact sub_mem (by decide) | (refine sub_mem ?_; simp [WX11_weekGoes, WX11_first]; done) | (intro a9 j9 h9; simp [WX11_weekGoes, inW] at h9; simp [WX11_first, inW]; omega)) fun q4 hq4 => ?_
      exact ih (v2 + 1) q4 hq4
set_option maxRecDepth 100000 in
theorem frX11_first  (a1 : Int32) (μ : Mem) : FrO (WX11_first) μ Prod.snd (fX11_first a1 μ) := by
  suffices hh : ∀ μ0 : Mem, Fr (WX11_first) μ0 μ → FrO (WX11_first) μ0 Prod.snd (fX11_first a1 μ) from hh μ Fr.rfl
  intro μ0 hμ
  unfold fX11_first
  refine fr_bp fun q1 => ?_
  refine fr_if ?_ ?_
  · refine fr_bv (frX11_copiesStill μ) hμ (by first | exact sub_mem (by decide) | (refine sub_mem ?_; simp [WX11_copiesStill, WX11_first]; done) | (intro a9 j9 h9; simp [WX11_copiesStill, inW] at h9; simp [WX11_first, inW]; omega)) fun q2 hq2 => ?_
    refine frX11_first_17 a1 μ0 _ (fun μ5 hμ5 => ?_) FU 0 q2 hq2
    exact fr_ret hμ5
  · exact fr_ret hμ
def WX11_weary : List (Nat × Nat × Option Nat) := [(277, 1, none), (243, 1, some 52), (243, 1, some 53), (274, 1, none), (243, 1, some 49), (275, 1, none), (278, 1, none), (279, 1, none)]
set_option maxRecDepth 100000 in
theorem frX11_weary_16   (v1 : Int32) (μ0 : Mem)  (K : Mem → Option (Int32 × Mem)) (hK : ∀  (μ : Mem) (_ : Fr (WX11_weary) μ0 μ), FrO (WX11_weary) μ0 Prod.snd (K μ)) : ∀ (n9 : Nat) (v2 : Int32) (μ : Mem) (_ : Fr (WX11_weary) μ0 μ), FrO (WX11_weary) μ0 Prod.snd (fX11_weary_16 v1 K n9 v2 μ) := by
  intro n9
  induction n9 with
  | zero => intros; exact fr_none
  | succ n ih =>
    intro v2 μ hμ
    unfold fX11_weary_16
    refine fr_if ?_ ?_
    · exact hK μ hμ
    · refine fr_bp fun q3 => ?_
      refine fr_if ?_ ?_
      · exact fr_ret hμ
      · refine fr_bv (frX11_weekGoes μ) hμ (by first | exact sub_mem (by decide) | (refine sub_mem ?_; simp [WX11_weekGoes, WX11_weary]; done) | (intro a9 j9 h9; simp [WX11_weekGoes, inW] at h9; simp [WX11_weary, inW]; omega)) fun q4 hq4 => ?_
        exact ih (v2 + 1) q4 hq4
set_option maxRecDepth 100000 in
theorem frX11_weary  (a1 : Int32) (μ : Mem) : FrO (WX11_weary) μ Prod.snd (fX11_weary a1 μ) := by
  suffices hh : ∀ μ0 : Mem, Fr (WX11_weary) μ0 μ → FrO (WX11_weary) μ0 Prod.snd (fX11_weary a1 μ) from hh μ Fr.rfl
  intro μ0 hμ
  unfold fX11_weary
  refine fr_bp fun q1 => ?_
  refine fr_if ?_ ?_
  · refine fr_bv (frX11_copiesStill μ) hμ (by first | exact sub_mem (by decide) | (refine sub_mem ?_; simp [WX11_copiesStill, WX11_weary]; done) | (intro a9 j9 h9; simp [WX11_copiesStill, inW] at h9; simp [WX11_weary, inW]; omega)) fun q2 hq2 => ?_
    refine frX11_weary_16 a1 μ0 _ (fun μ5 hμ5 => ?_) FU 0 q2 hq2
    exact fr_ret hμ5
  · exact fr_ret hμ
def WX11_price : List (Nat × Nat × Option Nat) := [(277, 1, none), (243, 1, some 52), (243, 1, some 53), (274, 1, none), (243, 1, some 49), (275, 1, none), (278, 1, none), (279, 1, none)]
set_option maxRecDepth 100000 in
theorem frX11_price  (a1 : Int32) (a2 : Int32) (μ : Mem) : FrO (WX11_price) μ Prod.snd (fX11_price a1 a2 μ) := by
  suffices hh : ∀ μ0 : Mem, Fr (WX11_price) μ0 μ → FrO (WX11_price) μ0 Prod.snd (fX11_price a1 a2 μ) from hh μ Fr.rfl
  intro μ0 hμ
  unfold fX11_price
  refine fr_bp fun q1 => ?_
  refine fr_if ?_ ?_
  · refine fr_bp fun q2 => ?_
    refine fr_if ?_ ?_
    · refine fr_bv (frX11_copiesStill μ) hμ (by first | exact sub_mem (by decide) | (refine sub_mem ?_; simp [WX11_copiesStill, WX11_price]; done) | (intro a9 j9 h9; simp [WX11_copiesStill, inW] at h9; simp [WX11_price, inW]; omega)) fun q3 hq3 => ?_
      refine fr_bv (frX11_goes a2 q3) hq3 (by first | exact sub_mem (by decide) | (refine sub_mem ?_; simp [WX11_goes, WX11_price]; done) | (intro a9 j9 h9; simp [WX11_goes, inW] at h9; simp [WX11_price, inW]; omega)) fun q4 hq4 => ?_
      refine fr_bm (frX11_sellsOf a1 q4) hq4 (by first | exact sub_mem (by decide) | (refine sub_mem ?_; simp [WX11_sellsOf, WX11_price]; done) | (intro a9 j9 h9; simp [WX11_sellsOf, inW] at h9; simp [WX11_price, inW]; omega)) fun q5 hq5 => ?_
      exact fr_ret hq5
    · exact fr_ret hμ
  · exact fr_ret hμ
def WX11_best : List (Nat × Nat × Option Nat) := [(277, 1, none), (243, 1, some 52), (243, 1, some 53), (274, 1, none), (243, 1, some 49), (275, 1, none), (278, 1, none), (279, 1, none)]
set_option maxRecDepth 100000 in
theorem frX11_best_39   (v1 : Int32) (v2 : Int32) (v3 : Int32) (μ0 : Mem)  (K : Int32 → Int32 → Mem → Option (Int32 × Mem)) (hK : ∀ (v4 : Int32) (v5 : Int32) (μ : Mem) (_ : Fr (WX11_best) μ0 μ), FrO (WX11_best) μ0 Prod.snd (K v4 v5 μ)) : ∀ (n9 : Nat) (v4 : Int32) (v5 : Int32) (v6 : Int32) (μ : Mem) (_ : Fr (WX11_best) μ0 μ), FrO (WX11_best) μ0 Prod.snd (fX11_best_39 v1 v2 v3 K n9 v4 v5 v6 μ) := by
  intro n9
  induction n9 with
  | zero => intros; exact fr_none
  | succ n ih =>
    intro v4 v5 v6 μ hμ
    unfold fX11_best_39
    refine fr_if ?_ ?_
    · exact hK v4 v5 μ hμ
    · refine fr_bm (frX11_sellsOf v1 μ) hμ (by first | exact sub_mem (by decide) | (refine sub_mem ?_; simp [WX11_sellsOf, WX11_best]; done) | (intro a9 j9 h9; simp [WX11_sellsOf, inW] at h9; simp [WX11_best, inW]; omega)) fun q5 hq5 => ?_
      refine fr_if ?_ ?_
      · refine fr_bm (frX11_sellsOf v1 q5.2) hq5 (by first | exact sub_mem (by decide) | (refine sub_mem ?_; simp [WX11_sellsOf, WX11_best]; done) | (intro a9 j9 h9; simp [WX11_sellsOf, inW] at h9; simp [WX11_best, inW]; omega)) fun q7 hq7 => ?_
        refine fr_bv (frX11_weekGoes q7.2) hq7 (by first | exact sub_mem (by decide) | (refine sub_mem ?_; simp [WX11_weekGoes, WX11_best]; done) | (intro a9 j9 h9; simp [WX11_weekGoes, inW] at h9; simp [WX11_best, inW]; omega)) fun q8 hq8 => ?_
        exact ih v6 q7.1 (v6 + 1) q8 hq8
      · refine fr_bv (frX11_weekGoes q5.2) hq5 (by first | exact sub_mem (by decide) | (refine sub_mem ?_; simp [WX11_weekGoes, WX11_best]; done) | (intro a9 j9 h9; simp [WX11_weekGoes, inW] at h9; simp [WX11_best, inW]; omega)) fun q6 hq6 => ?_
        exact ih v4 v5 (v6 + 1) q6 hq6
set_option maxRecDepth 100000 in
theorem frX11_best  (a1 : Int32) (a2 : Int32) (a3 : Int32) (μ : Mem) : FrO (WX11_best) μ Prod.snd (fX11_best a1 a2 a3 μ) := by
  suffices hh : ∀ μ0 : Mem, Fr (WX11_best) μ0 μ → FrO (WX11_best) μ0 Prod.snd (fX11_best a1 a2 a3 μ) from hh μ Fr.rfl
  intro μ0 hμ
  unfold fX11_best
  refine fr_bp fun q1 => ?_
  refine fr_if ?_ ?_
  · refine fr_bp fun q2 => ?_
    refine fr_if ?_ ?_
    · refine fr_bp fun q3 => ?_
      refine fr_if ?_ ?_
      · refine fr_bv (frX11_copiesStill μ) hμ (by first | exact sub_mem (by decide) | (refine sub_mem ?_; simp [WX11_copiesStill, WX11_best]; done) | (intro a9 j9 h9; simp [WX11_copiesStill, inW] at h9; simp [WX11_best, inW]; omega)) fun q4 hq4 => ?_
        refine frX11_best_39 a1 a2 a3 μ0 _ (fun y9 y10 μ11 hμ11 => ?_) FU (-1) (-1) 0 q4 hq4
        refine fr_if ?_ ?_
        · exact fr_ret hμ11
        · exact fr_ret hμ11
      · exact fr_ret hμ
    · exact fr_ret hμ
  · exact fr_ret hμ
def WX11_earned : List (Nat × Nat × Option Nat) := [(277, 1, none), (243, 1, some 52), (243, 1, some 53), (274, 1, none), (243, 1, some 49), (275, 1, none), (278, 1, none), (279, 1, none)]
set_option maxRecDepth 100000 in
theorem frX11_earned  (a1 : Int32) (μ : Mem) : FrO (WX11_earned) μ Prod.snd (fX11_earned a1 μ) := by
  suffices hh : ∀ μ0 : Mem, Fr (WX11_earned) μ0 μ → FrO (WX11_earned) μ0 Prod.snd (fX11_earned a1 μ) from hh μ Fr.rfl
  intro μ0 hμ
  unfold fX11_earned
  refine fr_bp fun q1 => ?_
  refine fr_if ?_ ?_
  · refine fr_bv (frX11_copiesStill μ) hμ (by first | exact sub_mem (by decide) | (refine sub_mem ?_; simp [WX11_copiesStill, WX11_earned]; done) | (intro a9 j9 h9; simp [WX11_copiesStill, inW] at h9; simp [WX11_earned, inW]; omega)) fun q2 hq2 => ?_
    refine fr_bv (frX11_goes a1 q2) hq2 (by first | exact sub_mem (by decide) | (refine sub_mem ?_; simp [WX11_goes, WX11_earned]; done) | (intro a9 j9 h9; simp [WX11_goes, inW] at h9; simp [WX11_earned, inW]; omega)) fun q3 hq3 => ?_
    exact fr_ret hq3
  · exact fr_ret hμ
def WX11_then : List (Nat × Nat × Option Nat) := [(277, 1, none), (243, 1, some 52), (243, 1, some 53), (274, 1, none), (243, 1, some 49), (275, 1, none), (278, 1, none), (279, 1, none)]
set_option maxRecDepth 100000 in
theorem frX11_then  (a1 : Int32) (a2 : Int32) (a3 : Int32) (μ : Mem) : FrO (WX11_then) μ Prod.snd (fX11_then a1 a2 a3 μ) := by
  suffices hh : ∀ μ0 : Mem, Fr (WX11_then) μ0 μ → FrO (WX11_then) μ0 Prod.snd (fX11_then a1 a2 a3 μ) from hh μ Fr.rfl
  intro μ0 hμ
  unfold fX11_then
  refine fr_bp fun q1 => ?_
  refine fr_if ?_ ?_
  · refine fr_bp fun q2 => ?_
    refine fr_if ?_ ?_
    · refine fr_bp fun q3 => ?_
      refine fr_if ?_ ?_
      · refine fr_bv (frX11_copies μ) hμ (by first | exact sub_mem (by decide) | (refine sub_mem ?_; simp [WX11_copies, WX11_then]; done) | (intro a9 j9 h9; simp [WX11_copies, inW] at h9; simp [WX11_then, inW]; omega)) fun q4 hq4 => ?_
        refine fr_bv (frX11_goes a2 q4) hq4 (by first | exact sub_mem (by decide) | (refine sub_mem ?_; simp [WX11_goes, WX11_then]; done) | (intro a9 j9 h9; simp [WX11_goes, inW] at h9; simp [WX11_then, inW]; omega)) fun q5 hq5 => ?_
        refine fr_g ?_
        exact fr_ret hq5
      · exact fr_ret hμ
    · exact fr_ret hμ
  · exact fr_ret hμ
def WX11_wornIn : List (Nat × Nat × Option Nat) := [(277, 1, none), (243, 1, some 52), (243, 1, some 53), (274, 1, none), (243, 1, some 49), (275, 1, none), (278, 1, none), (279, 1, none)]
set_option maxRecDepth 100000 in
theorem frX11_wornIn  (a1 : Int32) (a2 : Int32) (μ : Mem) : FrO (WX11_wornIn) μ Prod.snd (fX11_wornIn a1 a2 μ) := by
  suffices hh : ∀ μ0 : Mem, Fr (WX11_wornIn) μ0 μ → FrO (WX11_wornIn) μ0 Prod.snd (fX11_wornIn a1 a2 μ) from hh μ Fr.rfl
  intro μ0 hμ
  unfold fX11_wornIn
  refine fr_bp fun q1 => ?_
  refine fr_if ?_ ?_
  · refine fr_bp fun q2 => ?_
    refine fr_if ?_ ?_
    · refine fr_bv (frX11_copies μ) hμ (by first | exact sub_mem (by decide) | (refine sub_mem ?_; simp [WX11_copies, WX11_wornIn]; done) | (intro a9 j9 h9; simp [WX11_copies, inW] at h9; simp [WX11_wornIn, inW]; omega)) fun q3 hq3 => ?_
      refine fr_bv (frX11_goes a2 q3) hq3 (by first | exact sub_mem (by decide) | (refine sub_mem ?_; simp [WX11_goes, WX11_wornIn]; done) | (intro a9 j9 h9; simp [WX11_goes, inW] at h9; simp [WX11_wornIn, inW]; omega)) fun q4 hq4 => ?_
      refine fr_g ?_
      exact fr_ret hq4
    · exact fr_ret hμ
  · exact fr_ret hμ
def WX11_year : List (Nat × Nat × Option Nat) := [(277, 1, none), (243, 1, some 52), (243, 1, some 53), (274, 1, none), (243, 1, some 49), (275, 1, none), (278, 1, none), (279, 1, none)]
set_option maxRecDepth 100000 in
theorem frX11_year_33   (v1 : Int32) (v2 : Int32) (v3 : Int32) (μ0 : Mem)  (K : Int32 → Mem → Option (Int32 × Mem)) (hK : ∀ (v4 : Int32) (μ : Mem) (_ : Fr (WX11_year) μ0 μ), FrO (WX11_year) μ0 Prod.snd (K v4 μ)) : ∀ (n9 : Nat) (v4 : Int32) (v5 : Int32) (μ : Mem) (_ : Fr (WX11_year) μ0 μ), FrO (WX11_year) μ0 Prod.snd (fX11_year_33 v1 v2 v3 K n9 v4 v5 μ) := by
  intro n9
  induction n9 with
  | zero => intros; exact fr_none
  | succ n ih =>
    intro v4 v5 μ hμ
    unfold fX11_year_33
    refine fr_if ?_ ?_
    · refine fr_bv (frX11_copies μ) hμ (by first | exact sub_mem (by decide) | (refine sub_mem ?_; simp [WX11_copies, WX11_year]; done) | (intro a9 j9 h9; simp [WX11_copies, inW] at h9; simp [WX11_year, inW]; omega)) fun q4 hq4 => ?_
      refine fr_wI hq4 (inw_s (by decide)) fun μ5 hμ5 => ?_
      refine fr_bv (frX11_goes v2 μ5) hμ5 (by first | exact sub_mem (by decide) | (refine sub_mem ?_; simp [WX11_goes, WX11_year]; done) | (intro a9 j9 h9; simp [WX11_goes, inW] at h9; simp [WX11_year, inW]; omega)) fun q6 hq6 => ?_
      refine fr_g ?_
      refine fr_if ?_ ?_
      · exact ih (v4 + 1) (v5 + 1) q6 hq6
      · exact ih v4 (v5 + 1) q6 hq6
    · exact hK v4 μ hμ
set_option maxRecDepth 100000 in
theorem frX11_year  (a1 : Int32) (a2 : Int32) (a3 : Int32) (μ : Mem) : FrO (WX11_year) μ Prod.snd (fX11_year a1 a2 a3 μ) := by
  suffices hh : ∀ μ0 : Mem, Fr (WX11_year) μ0 μ → FrO (WX11_year) μ0 Prod.snd (fX11_year a1 a2 a3 μ) from hh μ Fr.rfl
  intro μ0 hμ
  unfold fX11_year
  refine fr_bp fun q1 => ?_
  refine fr_if ?_ ?_
  · refine fr_bp fun q2 => ?_
    refine fr_if ?_ ?_
    · refine fr_bp fun q3 => ?_
      refine fr_if ?_ ?_
      · refine frX11_year_33 a1 a2 a3 μ0 _ (fun y7 μ8 hμ8 => ?_) FU 0 0 μ hμ
        exact fr_ret hμ8
      · exact fr_ret hμ
    · exact fr_ret hμ
  · exact fr_ret hμ
def WX11_tell : List (Nat × Nat × Option Nat) := [(285, 1, none), (286, 1, none), (243, 1, some 62)]
set_option maxRecDepth 100000 in
theorem frX11_tell  (a1 : Int32) (a2 : Int32) (μ : Mem) : FrO (WX11_tell) μ Prod.snd (fX11_tell a1 a2 μ) := by
  suffices hh : ∀ μ0 : Mem, Fr (WX11_tell) μ0 μ → FrO (WX11_tell) μ0 Prod.snd (fX11_tell a1 a2 μ) from hh μ Fr.rfl
  intro μ0 hμ
  unfold fX11_tell
  refine fr_if ?_ ?_
  · exact fr_ret hμ
  · refine fr_bp fun q1 => ?_
    refine fr_if ?_ ?_
    · refine fr_g (fr_wI hμ (inw_n (by decide)) fun μ2 hμ2 => ?_)
      refine fr_g (fr_wI hμ2 (inw_n (by decide)) fun μ3 hμ3 => ?_)
      refine fr_wI hμ3 (inw_s (by decide)) fun μ4 hμ4 => ?_
      exact fr_ret hμ4
    · exact fr_ret hμ
def WX11_forget : List (Nat × Nat × Option Nat) := [(243, 1, some 62)]
set_option maxRecDepth 100000 in
theorem frX11_forget   (μ : Mem) : FrO (WX11_forget) μ Prod.snd (fX11_forget  μ) := by
  suffices hh : ∀ μ0 : Mem, Fr (WX11_forget) μ0 μ → FrO (WX11_forget) μ0 Prod.snd (fX11_forget  μ) from hh μ Fr.rfl
  intro μ0 hμ
  unfold fX11_forget
  refine fr_wI hμ (inw_s (by decide)) fun μ1 hμ1 => ?_
  exact fr_ret hμ1
def WX11_hold : List (Nat × Nat × Option Nat) := [(287, 1, none), (288, 1, none)]
set_option maxRecDepth 100000 in
theorem frX11_hold_20   (v1 : Int32) (μ0 : Mem)  (K : Mem → Option (Bool × Mem)) (hK : ∀  (μ : Mem) (_ : Fr (WX11_hold) μ0 μ), FrO (WX11_hold) μ0 Prod.snd (K μ)) : ∀ (n9 : Nat) (v2 : Int32) (μ : Mem) (_ : Fr (WX11_hold) μ0 μ), FrO (WX11_hold) μ0 Prod.snd (fX11_hold_20 v1 K n9 v2 μ) := by
  intro n9
  induction n9 with
  | zero => intros; exact fr_none
  | succ n ih =>
    intro v2 μ hμ
    unfold fX11_hold_20
    refine fr_if ?_ ?_
    · refine fr_g ?_
      refine fr_g (fr_wI hμ (inw_n (by decide)) fun μ3 hμ3 => ?_)
      exact ih (v2 + 1) μ3 hμ3
    · exact hK μ hμ
set_option maxRecDepth 100000 in
theorem frX11_hold  (a1 : Int32) (μ : Mem) : FrO (WX11_hold) μ Prod.snd (fX11_hold a1 μ) := by
  suffices hh : ∀ μ0 : Mem, Fr (WX11_hold) μ0 μ → FrO (WX11_hold) μ0 Prod.snd (fX11_hold a1 μ) from hh μ Fr.rfl
  intro μ0 hμ
  unfold fX11_hold
  refine fr_bp fun q1 => ?_
  refine fr_if ?_ ?_
  · refine fr_g (fr_wI hμ (inw_n (by decide)) fun μ2 hμ2 => ?_)
    refine frX11_hold_20 a1 μ0 _ (fun μ4 hμ4 => ?_) FU 0 μ2 hμ2
    exact fr_ret hμ4
  · exact fr_ret hμ
def WX11_restore : List (Nat × Nat × Option Nat) := [(276, 1, none), (243, 1, some 56)]
set_option maxRecDepth 100000 in
theorem frX11_restore_22   (v1 : Int32) (μ0 : Mem)  (K : Mem → Option (Bool × Mem)) (hK : ∀  (μ : Mem) (_ : Fr (WX11_restore) μ0 μ), FrO (WX11_restore) μ0 Prod.snd (K μ)) : ∀ (n9 : Nat) (v2 : Int32) (μ : Mem) (_ : Fr (WX11_restore) μ0 μ), FrO (WX11_restore) μ0 Prod.snd (fX11_restore_22 v1 K n9 v2 μ) := by
  intro n9
  induction n9 with
  | zero => intros; exact fr_none
  | succ n ih =>
    intro v2 μ hμ
    unfold fX11_restore_22
    refine fr_if ?_ ?_
    · refine fr_g ?_
      refine fr_g (fr_wI hμ (inw_n (by decide)) fun μ2 hμ2 => ?_)
      exact ih (v2 + 1) μ2 hμ2
    · exact hK μ hμ
set_option maxRecDepth 100000 in
theorem frX11_restore  (a1 : Int32) (μ : Mem) : FrO (WX11_restore) μ Prod.snd (fX11_restore a1 μ) := by
  suffices hh : ∀ μ0 : Mem, Fr (WX11_restore) μ0 μ → FrO (WX11_restore) μ0 Prod.snd (fX11_restore a1 μ) from hh μ Fr.rfl
  intro μ0 hμ
  unfold fX11_restore
  refine fr_bp fun q1 => ?_
  refine fr_if ?_ ?_
  · refine fr_g ?_
    refine fr_if ?_ ?_
    · exact fr_ret hμ
    · refine frX11_restore_22 a1 μ0 _ (fun μ3 hμ3 => ?_) FU 0 μ hμ
      refine fr_wI hμ3 (inw_s (by decide)) fun μ4 hμ4 => ?_
      exact fr_ret hμ4
  · exact fr_ret hμ
def WX11_count : List (Nat × Nat × Option Nat) := [(277, 1, none), (243, 1, some 52), (243, 1, some 53), (274, 1, none), (243, 1, some 49), (275, 1, none)]
set_option maxRecDepth 100000 in
theorem frX11_count_134    (μ0 : Mem) (μ : Mem) (hμ : Fr (WX11_count) μ0 μ) (K : Int32 → Option (Int32 × Mem)) (hK : ∀ (v2 : Int32), FrO (WX11_count) μ0 Prod.snd (K v2)) : ∀ (n9 : Nat) (v2 : Int32) (v3 : Int32), FrO (WX11_count) μ0 Prod.snd (fX11_count_134 μ K n9 v2 v3) := by
  intro n9
  induction n9 with
  | zero => intros; exact fr_none
  | succ n ih =>
    intro v2 v3
    unfold fX11_count_134
    refine fr_g ?_
    refine fr_if ?_ ?_
    · refine fr_g ?_
      refine fr_if ?_ ?_
      · exact ih v2 (v3 + 1)
      · refine fr_nmv fun x7 => ?_
        exact ih x7 (v3 + 1)
    · exact hK v2
set_option maxRecDepth 100000 in
theorem frX11_count_193    (μ0 : Mem) (μ : Mem) (hμ : Fr (WX11_count) μ0 μ) (K : Int32 → Option (Int32 × Mem)) (hK : ∀ (v2 : Int32), FrO (WX11_count) μ0 Prod.snd (K v2)) : ∀ (n9 : Nat) (v2 : Int32) (v3 : Int32), FrO (WX11_count) μ0 Prod.snd (fX11_count_193 μ K n9 v2 v3) := by
  intro n9
  induction n9 with
  | zero => intros; exact fr_none
  | succ n ih =>
    intro v2 v3
    unfold fX11_count_193
    refine fr_g ?_
    refine fr_if ?_ ?_
    · refine fr_g ?_
      refine fr_nmv fun x12 => ?_
      exact ih x12 (v3 + 1)
    · exact hK v2
set_option maxRecDepth 100000 in
theorem frX11_count_j262   (s0 : Int32) (μ0 : Mem) (μ : Mem) (hμ : Fr (WX11_count) μ0 μ)  : FrO (WX11_count) μ0 Prod.snd (fX11_count_j262 s0 μ) := by
  unfold fX11_count_j262
  refine fr_if ?_ ?_
  · refine fr_if ?_ ?_
    · exact fr_ret hμ
    · exact fr_ret hμ
  · refine fr_if ?_ ?_
    · exact fr_ret hμ
    · exact fr_ret hμ
set_option maxRecDepth 100000 in
theorem frX11_count_312    (μ0 : Mem) (μ : Mem) (hμ : Fr (WX11_count) μ0 μ) (K : Int32 → Option (Int32 × Mem)) (hK : ∀ (v2 : Int32), FrO (WX11_count) μ0 Prod.snd (K v2)) : ∀ (n9 : Nat) (v2 : Int32) (v3 : Int32), FrO (WX11_count) μ0 Prod.snd (fX11_count_312 μ K n9 v2 v3) := by
  intro n9
  induction n9 with
  | zero => intros; exact fr_none
  | succ n ih =>
    intro v2 v3
    unfold fX11_count_312
    refine fr_g ?_
    refine fr_if ?_ ?_
    · refine fr_bp fun q25 => ?_
      refine fr_bp fun q26 => ?_
      exact ih (v2 + q26) (v3 + 1)
    · exact hK v2
set_option maxRecDepth 100000 in
theorem frX11_count_348    (μ0 : Mem) (μ : Mem) (hμ : Fr (WX11_count) μ0 μ) (K : Int32 → Option (Int32 × Mem)) (hK : ∀ (v2 : Int32), FrO (WX11_count) μ0 Prod.snd (K v2)) : ∀ (n9 : Nat) (v2 : Int32) (v3 : Int32), FrO (WX11_count) μ0 Prod.snd (fX11_count_348 μ K n9 v2 v3) := by
  intro n9
  induction n9 with
  | zero => intros; exact fr_none
  | succ n ih =>
    intro v2 v3
    unfold fX11_count_348
    refine fr_g ?_
    refine fr_if ?_ ?_
    · refine fr_bp fun q29 => ?_
      refine fr_if ?_ ?_
      · exact ih v2 (v3 + 1)
      · refine fr_nmv fun x30 => ?_
        exact ih x30 (v3 + 1)
    · exact hK v2
set_option maxRecDepth 100000 in
theorem frX11_count_385    (μ0 : Mem) (μ : Mem) (hμ : Fr (WX11_count) μ0 μ) (K : Int32 → Option (Int32 × Mem)) (hK : ∀ (v2 : Int32), FrO (WX11_count) μ0 Prod.snd (K v2)) : ∀ (n9 : Nat) (v2 : Int32) (v3 : Int32), FrO (WX11_count) μ0 Prod.snd (fX11_count_385 μ K n9 v2 v3) := by
  intro n9
  induction n9 with
  | zero => intros; exact fr_none
  | succ n ih =>
    intro v2 v3
    unfold fX11_count_385
    refine fr_g ?_
    refine fr_if ?_ ?_
    · refine fr_bp fun q33 => ?_
      refine fr_if ?_ ?_
      · exact ih v2 (v3 + 1)
      · refine fr_nmv fun x34 => ?_
        exact ih x34 (v3 + 1)
    · exact hK v2
set_option maxRecDepth 100000 in
theorem frX11_count_422    (μ0 : Mem) (μ : Mem) (hμ : Fr (WX11_count) μ0 μ) (K : Int32 → Option (Int32 × Mem)) (hK : ∀ (v2 : Int32), FrO (WX11_count) μ0 Prod.snd (K v2)) : ∀ (n9 : Nat) (v2 : Int32) (v3 : Int32), FrO (WX11_count) μ0 Prod.snd (fX11_count_422 μ K n9 v2 v3) := by
  intro n9
  induction n9 with
  | zero => intros; exact fr_none
  | succ n ih =>
    intro v2 v3
    unfold fX11_count_422
    refine fr_g ?_
    refine fr_if ?_ ?_
    · refine fr_g ?_
      refine fr_if ?_ ?_
      · refine fr_g ?_
        refine fr_nmv fun x37 => ?_
        exact ih x37 (v3 + 1)
      · exact ih v2 (v3 + 1)
    · exact hK v2
set_option maxRecDepth 100000 in
theorem frX11_count_473    (μ0 : Mem) (μ : Mem) (hμ : Fr (WX11_count) μ0 μ) (K : Int32 → Option (Int32 × Mem)) (hK : ∀ (v2 : Int32), FrO (WX11_count) μ0 Prod.snd (K v2)) : ∀ (n9 : Nat) (v2 : Int32) (v3 : Int32), FrO (WX11_count) μ0 Prod.snd (fX11_count_473 μ K n9 v2 v3) := by
  intro n9
  induction n9 with
  | zero => intros; exact fr_none
  | succ n ih =>
    intro v2 v3
    unfold fX11_count_473
    refine fr_g ?_
    refine fr_if ?_ ?_
    · refine fr_g ?_
      refine fr_if ?_ ?_
      · refine fr_g ?_
        refine fr_nmv fun x40 => ?_
        exact ih x40 (v3 + 1)
      · exact ih v2 (v3 + 1)
    · exact hK v2
set_option maxRecDepth 100000 in
theorem frX11_count  (a1 : Int32) (μ : Mem) : FrO (WX11_count) μ Prod.snd (fX11_count a1 μ) := by
  suffices hh : ∀ μ0 : Mem, Fr (WX11_count) μ0 μ → FrO (WX11_count) μ0 Prod.snd (fX11_count a1 μ) from hh μ Fr.rfl
  intro μ0 hμ
  unfold fX11_count
  refine fr_bv (frX11_copies μ) hμ (by first | exact sub_mem (by decide) | (refine sub_mem ?_; simp [WX11_copies, WX11_count]; done) | (intro a9 j9 h9; simp [WX11_copies, inW] at h9; simp [WX11_count, inW]; omega)) fun q1 hq1 => ?_
  refine fr_if ?_ ?_
  · refine fr_g ?_
    exact fr_ret hq1
  · refine fr_if ?_ ?_
    · refine fr_g ?_
      exact fr_ret hq1
    · refine fr_if ?_ ?_
      · exact fr_ret hq1
      · refine fr_if ?_ ?_
        · exact fr_ret hq1
        · refine fr_if ?_ ?_
          · refine frX11_count_134 μ0 q1 hq1 _ (fun y8 => ?_) FU 0 0
            exact fr_ret hq1
          · refine fr_if ?_ ?_
            · refine fr_g ?_
              refine fr_bp fun q10 => ?_
              exact fr_ret hq1
            · refine fr_if ?_ ?_
              · refine frX11_count_193 μ0 q1 hq1 _ (fun y13 => ?_) FU 0 0
                exact fr_ret hq1
              · refine fr_if ?_ ?_
                · refine fr_bm (frX11_dueAll q1) hq1 (by first | exact sub_mem (by decide) | (refine sub_mem ?_; simp [WX11_dueAll, WX11_count]; done) | (intro a9 j9 h9; simp [WX11_dueAll, inW] at h9; simp [WX11_count, inW]; omega)) fun q15 hq15 => ?_
                  exact fr_ret hq15
                · refine fr_if ?_ ?_
                  · exact fr_ret hq1
                  · refine fr_if ?_ ?_
                    · exact fr_ret hq1
                    · refine fr_if ?_ ?_
                      · exact fr_ret hq1
                      · refine fr_if ?_ ?_
                        · refine fr_if ?_ ?_
                          · exact frX11_count_j262 0 μ0 q1 hq1
                          · exact frX11_count_j262 1 μ0 q1 hq1
                        · refine fr_if ?_ ?_
                          · refine fr_bp fun q21 => ?_
                            exact fr_ret hq1
                          · refine fr_if ?_ ?_
                            · refine fr_bp fun q23 => ?_
                              exact fr_ret hq1
                            · refine fr_if ?_ ?_
                              · refine frX11_count_312 μ0 q1 hq1 _ (fun y27 => ?_) FU 0 0
                                exact fr_ret hq1
                              · refine fr_if ?_ ?_
                                · refine frX11_count_348 μ0 q1 hq1 _ (fun y31 => ?_) FU 0 0
                                  exact fr_ret hq1
                                · refine fr_if ?_ ?_
                                  · refine frX11_count_385 μ0 q1 hq1 _ (fun y35 => ?_) FU 0 0
                                    exact fr_ret hq1
                                  · refine fr_if ?_ ?_
                                    · refine frX11_count_422 μ0 q1 hq1 _ (fun y38 => ?_) FU 0 0
                                      exact fr_ret hq1
                                    · refine fr_if ?_ ?_
                                      · refine frX11_count_473 μ0 q1 hq1 _ (fun y41 => ?_) FU 0 0
                                        exact fr_ret hq1
                                      · exact fr_ret hq1
