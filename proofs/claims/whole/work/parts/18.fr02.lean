def WX4_readTape (t2 : Nat) : List (Nat × Nat × Option Nat) := [(3, 1, some 0), (3, 1, some 4), (3, 1, some 5), (3, 1, some 3), (t2, 1, some 0), (t2, 1, some 3), (t2, 1, some 7), (t2, 1, some 8), (t2, 1, some 9), ((t2 + 6), 1, some 3), (((t2 + 6) + 3), 1, none), (((t2 + 6) + 1), 1, none), (((t2 + 6) + 2), 1, none), (4, 1, some 4), (5, 1, none), (6, 1, none), (7, 1, none), ((t2 + 14), 1, none), ((t2 + 1), 1, none), ((t2 + 2), 1, none), ((t2 + 15), 1, none), ((t2 + 3), 1, none), ((t2 + 4), 1, none), ((t2 + 5), 1, none), ((t2 + 13), 1, none), (3, 1, some 1), ((t2 + 11), 1, none), ((t2 + 10), 1, none), ((t2 + 12), 1, none)]
set_option maxRecDepth 100000 in
theorem frX4_readTape_37 (t2 : Nat)   (μ0 : Mem)  (K : Int32 → Mem → Option (Mem)) (hK : ∀ (v3 : Int32) (μ : Mem) (_ : Fr (WX4_readTape t2) μ0 μ), FrO (WX4_readTape t2) μ0 id (K v3 μ)) : ∀ (n9 : Nat) (v3 : Int32) (v4 : Int32) (μ : Mem) (_ : Fr (WX4_readTape t2) μ0 μ), FrO (WX4_readTape t2) μ0 id (fX4_readTape_37 t2 K n9 v3 v4 μ) := by
  intro n9
  induction n9 with
  | zero => intros; exact fr_none
  | succ n ih =>
    intro v3 v4 μ hμ
    unfold fX4_readTape_37
    refine fr_if ?_ ?_
    · exact hK v3 μ hμ
    · refine fr_if ?_ ?_
      · exact hK v3 μ hμ
      · refine fr_bp fun q7 => ?_
        refine fr_if ?_ ?_
        · exact hK v3 μ hμ
        · refine fr_bm (frX4_readTell t2 μ) hμ (by first | exact sub_mem (by decide) | (refine sub_mem ?_; simp [WX4_readTell, WX4_readTape]; done) | (intro a9 j9 h9; simp [WX4_readTell, inW] at h9; simp [WX4_readTape, inW]; omega)) fun q8 hq8 => ?_
          exact ih (b2i q8.1) (v4 + 1) q8.2 hq8
set_option maxRecDepth 100000 in
theorem frX4_readTape_j68 (t2 : Nat)  (v3 : Int32) (μ0 : Mem) (μ : Mem) (hμ : Fr (WX4_readTape t2) μ0 μ)  : FrO (WX4_readTape t2) μ0 id (fX4_readTape_j68 t2 v3 μ) := by
  unfold fX4_readTape_j68
  refine fr_if ?_ ?_
  · refine fr_g ?_
    refine fr_wI hμ (by first | exact inw_n (by decide) | exact inw_s (by decide) | (simp [WX4_readTape, inW]; done) | (simp [WX4_readTape, inW]; omega)) fun μ11 hμ11 => ?_
    refine fr_if ?_ ?_
    · refine fr_bv (frX7_findClashes t2 μ11) hμ11 (by first | exact sub_mem (by decide) | (refine sub_mem ?_; simp [WX7_findClashes, WX4_readTape]; done) | (intro a9 j9 h9; simp [WX7_findClashes, inW] at h9; simp [WX4_readTape, inW]; omega)) fun q12 hq12 => ?_
      exact fr_ret hq12
    · exact fr_ret hμ11
  · refine fr_wI hμ (by first | exact inw_n (by decide) | exact inw_s (by decide) | (simp [WX4_readTape, inW]; done) | (simp [WX4_readTape, inW]; omega)) fun μ13 hμ13 => ?_
    refine fr_wI hμ13 (by first | exact inw_n (by decide) | exact inw_s (by decide) | (simp [WX4_readTape, inW]; done) | (simp [WX4_readTape, inW]; omega)) fun μ14 hμ14 => ?_
    refine fr_if ?_ ?_
    · refine fr_bv (frX7_findClashes t2 μ14) hμ14 (by first | exact sub_mem (by decide) | (refine sub_mem ?_; simp [WX7_findClashes, WX4_readTape]; done) | (intro a9 j9 h9; simp [WX7_findClashes, inW] at h9; simp [WX4_readTape, inW]; omega)) fun q15 hq15 => ?_
      exact fr_ret hq15
    · exact fr_ret hμ14
set_option maxRecDepth 100000 in
theorem frX4_readTape  (t2 : Nat) (μ : Mem) : FrO (WX4_readTape t2) μ id (fX4_readTape t2 μ) := by
  suffices hh : ∀ μ0 : Mem, Fr (WX4_readTape t2) μ0 μ → FrO (WX4_readTape t2) μ0 id (fX4_readTape t2 μ) from hh μ Fr.rfl
  intro μ0 hμ
  unfold fX4_readTape
  refine fr_wI hμ (by first | exact inw_n (by decide) | exact inw_s (by decide) | (simp [WX4_readTape, inW]; done) | (simp [WX4_readTape, inW]; omega)) fun μ1 hμ1 => ?_
  refine fr_wI hμ1 (by first | exact inw_n (by decide) | exact inw_s (by decide) | (simp [WX4_readTape, inW]; done) | (simp [WX4_readTape, inW]; omega)) fun μ2 hμ2 => ?_
  refine fr_wI hμ2 (by first | exact inw_n (by decide) | exact inw_s (by decide) | (simp [WX4_readTape, inW]; done) | (simp [WX4_readTape, inW]; omega)) fun μ3 hμ3 => ?_
  refine fr_wI hμ3 (by first | exact inw_n (by decide) | exact inw_s (by decide) | (simp [WX4_readTape, inW]; done) | (simp [WX4_readTape, inW]; omega)) fun μ4 hμ4 => ?_
  refine fr_bv (frX7_begin t2 μ4) hμ4 (by first | exact sub_mem (by decide) | (refine sub_mem ?_; simp [WX7_begin, WX4_readTape]; done) | (intro a9 j9 h9; simp [WX7_begin, inW] at h9; simp [WX4_readTape, inW]; omega)) fun q5 hq5 => ?_
  refine fr_bv (frX8_cut q5) hq5 (by first | exact sub_mem (by decide) | (refine sub_mem ?_; simp [WX8_cut, WX4_readTape]; done) | (intro a9 j9 h9; simp [WX8_cut, inW] at h9; simp [WX4_readTape, inW]; omega)) fun q6 hq6 => ?_
  refine frX4_readTape_37 t2 μ0 _ (fun y9 μ10 hμ10 => ?_) FU 1 0 q6 hq6
  exact frX4_readTape_j68 t2 y9 μ0 μ10 hμ10
def WX5_begin (t0 : Nat) : List (Nat × Nat × Option Nat) := [(t0, 1, some 0), (t0, 1, some 1), (t0, 1, some 2), (t0, 1, some 3), ((t0 + 1), 1, none), ((t0 + 2), 1, none), ((t0 + 3), 1, none)]
set_option maxRecDepth 100000 in
theorem frX5_begin_22 (t0 : Nat)   (μ0 : Mem)  (K : Mem → Option (Mem)) (hK : ∀  (μ : Mem) (_ : Fr (WX5_begin t0) μ0 μ), FrO (WX5_begin t0) μ0 id (K μ)) : ∀ (n9 : Nat) (v1 : Int32) (μ : Mem) (_ : Fr (WX5_begin t0) μ0 μ), FrO (WX5_begin t0) μ0 id (fX5_begin_22 t0 K n9 v1 μ) := by
  intro n9
  induction n9 with
  | zero => intros; exact fr_none
  | succ n ih =>
    intro v1 μ hμ
    unfold fX5_begin_22
    refine fr_if ?_ ?_
    · refine fr_g (fr_wI hμ (by first | exact inw_n (by decide) | exact inw_s (by decide) | (simp [WX5_begin, inW]; done) | (simp [WX5_begin, inW]; omega)) fun μ5 hμ5 => ?_)
      refine fr_g (fr_wI hμ5 (by first | exact inw_n (by decide) | exact inw_s (by decide) | (simp [WX5_begin, inW]; done) | (simp [WX5_begin, inW]; omega)) fun μ6 hμ6 => ?_)
      exact ih (v1 + 1) μ6 hμ6
    · exact hK μ hμ
set_option maxRecDepth 100000 in
theorem frX5_begin_49 (t0 : Nat)   (μ0 : Mem)  (K : Mem → Option (Mem)) (hK : ∀  (μ : Mem) (_ : Fr (WX5_begin t0) μ0 μ), FrO (WX5_begin t0) μ0 id (K μ)) : ∀ (n9 : Nat) (v1 : Int32) (μ : Mem) (_ : Fr (WX5_begin t0) μ0 μ), FrO (WX5_begin t0) μ0 id (fX5_begin_49 t0 K n9 v1 μ) := by
  intro n9
  induction n9 with
  | zero => intros; exact fr_none
  | succ n ih =>
    intro v1 μ hμ
    unfold fX5_begin_49
    refine fr_if ?_ ?_
    · refine fr_g (fr_wI hμ (by first | exact inw_n (by decide) | exact inw_s (by decide) | (simp [WX5_begin, inW]; done) | (simp [WX5_begin, inW]; omega)) fun μ8 hμ8 => ?_)
      exact ih (v1 + 1) μ8 hμ8
    · exact hK μ hμ
set_option maxRecDepth 100000 in
theorem frX5_begin  (t0 : Nat) (μ : Mem) : FrO (WX5_begin t0) μ id (fX5_begin t0 μ) := by
  suffices hh : ∀ μ0 : Mem, Fr (WX5_begin t0) μ0 μ → FrO (WX5_begin t0) μ0 id (fX5_begin t0 μ) from hh μ Fr.rfl
  intro μ0 hμ
  unfold fX5_begin
  refine fr_wI hμ (by first | exact inw_n (by decide) | exact inw_s (by decide) | (simp [WX5_begin, inW]; done) | (simp [WX5_begin, inW]; omega)) fun μ1 hμ1 => ?_
  refine fr_wI hμ1 (by first | exact inw_n (by decide) | exact inw_s (by decide) | (simp [WX5_begin, inW]; done) | (simp [WX5_begin, inW]; omega)) fun μ2 hμ2 => ?_
  refine fr_wI hμ2 (by first | exact inw_n (by decide) | exact inw_s (by decide) | (simp [WX5_begin, inW]; done) | (simp [WX5_begin, inW]; omega)) fun μ3 hμ3 => ?_
  refine fr_wI hμ3 (by first | exact inw_n (by decide) | exact inw_s (by decide) | (simp [WX5_begin, inW]; done) | (simp [WX5_begin, inW]; omega)) fun μ4 hμ4 => ?_
  refine frX5_begin_22 t0 μ0 _ (fun μ7 hμ7 => ?_) FU 0 μ4 hμ4
  refine frX5_begin_49 t0 μ0 _ (fun μ9 hμ9 => ?_) FU 0 μ7 hμ7
  exact fr_ret hμ9
def WX1_setSunday : List (Nat × Nat × Option Nat) := [(181, 1, none)]
set_option maxRecDepth 100000 in
theorem frX1_setSunday  (t1 : Nat) (t2 : Nat) (a3 : Int32) (μ : Mem) : FrO (WX1_setSunday) μ id (fX1_setSunday t1 t2 a3 μ) := by
  suffices hh : ∀ μ0 : Mem, Fr (WX1_setSunday) μ0 μ → FrO (WX1_setSunday) μ0 id (fX1_setSunday t1 t2 a3 μ) from hh μ Fr.rfl
  intro μ0 hμ
  unfold fX1_setSunday
  refine fr_g ?_
  refine fr_wI hμ (inw_n (by decide)) fun μ1 hμ1 => ?_
  refine fr_g ?_
  refine fr_wI hμ1 (inw_n (by decide)) fun μ2 hμ2 => ?_
  refine fr_wI hμ2 (inw_n (by decide)) fun μ3 hμ3 => ?_
  exact fr_ret hμ3
def WX2_answer : List (Nat × Nat × Option Nat) := [(182, 1, none)]
set_option maxRecDepth 100000 in
theorem frX2_answer_j64_11 (t0 : Nat)  (v4 : Int32) (v5 : Int32) (v6 : Int32) (μ0 : Mem) (μ : Mem) (hμ : Fr (WX2_answer) μ0 μ) (KB : Int32 → Int32 → Mem → Option (Int32 × Mem)) (hB : ∀ (u4 : Int32) (u5 : Int32) (um : Mem) (_ : Fr (WX2_answer) μ0 um), FrO (WX2_answer) μ0 Prod.snd (KB u4 u5 um)) (K : Mem → Option (Int32 × Mem)) (hK : ∀  (um : Mem) (_ : Fr (WX2_answer) μ0 um), FrO (WX2_answer) μ0 Prod.snd (K um)) : FrO (WX2_answer) μ0 Prod.snd (fX2_answer_j64_11 t0 KB K v4 v5 v6 μ) := by
  unfold fX2_answer_j64_11
  refine fr_if ?_ ?_
  · refine fr_if ?_ ?_
    · refine fr_g ?_
      refine fr_g (fr_wI hμ (inw_n (by decide)) fun μ4 hμ4 => ?_)
      exact hB (v4 + 1) (v5 + 1) μ4 hμ4
    · refine fr_g ?_
      refine fr_g ?_
      refine fr_g (fr_wI hμ (inw_n (by decide)) fun μ3 hμ3 => ?_)
      exact hB (v4 + 1) (v5 + 1) μ3 hμ3
  · exact fr_ret hμ
set_option maxRecDepth 100000 in
theorem frX2_answer_11 (t0 : Nat)   (μ0 : Mem)  (K : Mem → Option (Int32 × Mem)) (hK : ∀  (μ : Mem) (_ : Fr (WX2_answer) μ0 μ), FrO (WX2_answer) μ0 Prod.snd (K μ)) : ∀ (n9 : Nat) (v4 : Int32) (v5 : Int32) (μ : Mem) (_ : Fr (WX2_answer) μ0 μ), FrO (WX2_answer) μ0 Prod.snd (fX2_answer_11 t0 K n9 v4 v5 μ) := by
  intro n9
  induction n9 with
  | zero => intros; exact fr_none
  | succ n ih =>
    intro v4 v5 μ hμ
    unfold fX2_answer_11
    refine fr_if ?_ ?_
    · refine fr_g ?_
      refine fr_nmv fun x2 => ?_
      refine fr_if ?_ ?_
      · refine fr_if ?_ ?_
        · exact fr_ret hμ
        · refine fr_g ?_
          exact fr_ret hμ
      · refine fr_if ?_ ?_
        · exact frX2_answer_j64_11 t0 v4 v5 x2 μ0 μ hμ _ (fun z0 z1 zm hz => ih z0 z1 zm hz) K hK
        · refine fr_if ?_ ?_
          · exact frX2_answer_j64_11 t0 v4 v5 x2 μ0 μ hμ _ (fun z0 z1 zm hz => ih z0 z1 zm hz) K hK
          · refine fr_if ?_ ?_
            · exact fr_ret hμ
            · refine fr_g ?_
              refine fr_nmv fun x5 => ?_
              refine fr_g ?_
              refine fr_nmv fun x6 => ?_
              refine fr_if ?_ ?_
              · refine fr_if ?_ ?_
                · exact ih (v4 + (-2)) (v5 + 1) μ hμ
                · refine fr_g ?_
                  refine fr_nmv fun x11 => ?_
                  exact ih (v4 + (-2)) (x11 + 1) μ hμ
              · refine fr_if ?_ ?_
                · refine fr_if ?_ ?_
                  · exact fr_ret hμ
                  · refine fr_bp fun q9 => ?_
                    refine fr_g (fr_wI hμ (inw_n (by decide)) fun μ10 hμ10 => ?_)
                    exact ih (v4 + (-1)) (v5 + 1) μ10 hμ10
                · refine fr_bp fun q7 => ?_
                  refine fr_g (fr_wI hμ (inw_n (by decide)) fun μ8 hμ8 => ?_)
                  exact ih (v4 + (-1)) (v5 + 1) μ8 hμ8
    · exact hK μ hμ
set_option maxRecDepth 100000 in
theorem frX2_answer  (t0 : Nat) (a1 : Int32) (μ : Mem) : FrO (WX2_answer) μ Prod.snd (fX2_answer t0 a1 μ) := by
  suffices hh : ∀ μ0 : Mem, Fr (WX2_answer) μ0 μ → FrO (WX2_answer) μ0 Prod.snd (fX2_answer t0 a1 μ) from hh μ Fr.rfl
  intro μ0 hμ
  unfold fX2_answer
  refine fr_g ?_
  refine fr_nmv fun x1 => ?_
  refine frX2_answer_11 t0 μ0 _ (fun μ12 hμ12 => ?_) FU 0 x1 μ hμ
  exact fr_ret hμ12
def WX1_answerHeld : List (Nat × Nat × Option Nat) := [(182, 1, none)]
set_option maxRecDepth 100000 in
theorem frX1_answerHeld  (t1 : Nat) (a2 : Int32) (μ : Mem) : FrO (WX1_answerHeld) μ Prod.snd (fX1_answerHeld t1 a2 μ) := by
  suffices hh : ∀ μ0 : Mem, Fr (WX1_answerHeld) μ0 μ → FrO (WX1_answerHeld) μ0 Prod.snd (fX1_answerHeld t1 a2 μ) from hh μ Fr.rfl
  intro μ0 hμ
  unfold fX1_answerHeld
  refine fr_bm (frX2_answer t1 a2 μ) hμ (by first | exact sub_mem (by decide) | (refine sub_mem ?_; simp [WX2_answer, WX1_answerHeld]; done) | (intro a9 j9 h9; simp [WX2_answer, inW] at h9; simp [WX1_answerHeld, inW]; omega)) fun q1 hq1 => ?_
  exact fr_ret hq1
def WX1_ofSunday : List (Nat × Nat × Option Nat) := [(181, 1, none), (182, 1, none)]
set_option maxRecDepth 100000 in
theorem frX1_ofSunday  (a1 : Int32) (t2 : Nat) (t3 : Nat) (a4 : Int32) (μ : Mem) : FrO (WX1_ofSunday) μ Prod.snd (fX1_ofSunday a1 t2 t3 a4 μ) := by
  suffices hh : ∀ μ0 : Mem, Fr (WX1_ofSunday) μ0 μ → FrO (WX1_ofSunday) μ0 Prod.snd (fX1_ofSunday a1 t2 t3 a4 μ) from hh μ Fr.rfl
  intro μ0 hμ
  unfold fX1_ofSunday
  refine fr_bv (frX1_setSunday t2 t3 a4 μ) hμ (by first | exact sub_mem (by decide) | (refine sub_mem ?_; simp [WX1_setSunday, WX1_ofSunday]; done) | (intro a9 j9 h9; simp [WX1_setSunday, inW] at h9; simp [WX1_ofSunday, inW]; omega)) fun q1 hq1 => ?_
  refine fr_wI hq1 (inw_n (by decide)) fun μ2 hμ2 => ?_
  refine fr_g ?_
  refine fr_bp fun q3 => ?_
  refine fr_wI hμ2 (inw_n (by decide)) fun μ4 hμ4 => ?_
  refine fr_wI hμ4 (inw_n (by decide)) fun μ5 hμ5 => ?_
  refine fr_wI hμ5 (inw_n (by decide)) fun μ6 hμ6 => ?_
  refine fr_wI hμ6 (inw_n (by decide)) fun μ7 hμ7 => ?_
  refine fr_g ?_
  refine fr_bp fun q8 => ?_
  refine fr_wI hμ7 (inw_n (by decide)) fun μ9 hμ9 => ?_
  refine fr_bm (frX1_answerHeld (t2 + 6) a1 μ9) hμ9 (by first | exact sub_mem (by decide) | (refine sub_mem ?_; simp [WX1_answerHeld, WX1_ofSunday]; done) | (intro a9 j9 h9; simp [WX1_answerHeld, inW] at h9; simp [WX1_ofSunday, inW]; omega)) fun q10 hq10 => ?_
  exact fr_ret hq10
def WX10_sunday : List (Nat × Nat × Option Nat) := [(181, 1, none), (182, 1, none)]
set_option maxRecDepth 100000 in
theorem frX10_sunday  (a1 : Int32) (a2 : Int32) (μ : Mem) : FrO (WX10_sunday) μ Prod.snd (fX10_sunday a1 a2 μ) := by
  suffices hh : ∀ μ0 : Mem, Fr (WX10_sunday) μ0 μ → FrO (WX10_sunday) μ0 Prod.snd (fX10_sunday a1 a2 μ) from hh μ Fr.rfl
  intro μ0 hμ
  unfold fX10_sunday
  refine fr_bp fun q1 => ?_
  refine fr_if ?_ ?_
  · refine fr_if ?_ ?_
    · refine fr_g ?_
      exact fr_ret hμ
    · refine fr_if ?_ ?_
      · refine fr_g ?_
        exact fr_ret hμ
      · refine fr_if ?_ ?_
        · refine fr_g ?_
          exact fr_ret hμ
        · refine fr_if ?_ ?_
          · refine fr_bp fun q6 => ?_
            refine fr_if ?_ ?_
            · exact fr_ret hμ
            · exact fr_ret hμ
          · refine fr_if ?_ ?_
            · refine fr_g ?_
              exact fr_ret hμ
            · refine fr_if ?_ ?_
              · refine fr_g ?_
                refine fr_if ?_ ?_
                · exact fr_ret hμ
                · refine fr_bm (frX1_ofSunday 2 199 9 a1 μ) hμ (by first | exact sub_mem (by decide) | (refine sub_mem ?_; simp [WX1_ofSunday, WX10_sunday]; done) | (intro a9 j9 h9; simp [WX1_ofSunday, inW] at h9; simp [WX10_sunday, inW]; omega)) fun q9 hq9 => ?_
                  exact fr_ret hq9
              · refine fr_if ?_ ?_
                · refine fr_bm (frX1_ofSunday 3 199 9 a1 μ) hμ (by first | exact sub_mem (by decide) | (refine sub_mem ?_; simp [WX1_ofSunday, WX10_sunday]; done) | (intro a9 j9 h9; simp [WX1_ofSunday, inW] at h9; simp [WX10_sunday, inW]; omega)) fun q11 hq11 => ?_
                  exact fr_ret hq11
                · exact fr_ret hμ
  · exact fr_ret hμ
def WX1_ofGuest : List (Nat × Nat × Option Nat) := [(181, 1, none), (182, 1, none)]
set_option maxRecDepth 100000 in
theorem frX1_ofGuest  (a1 : Int32) (t2 : Nat) (t3 : Nat) (a4 : Int32) (a5 : Int32) (a6 : Int32) (μ : Mem) : FrO (WX1_ofGuest) μ Prod.snd (fX1_ofGuest a1 t2 t3 a4 a5 a6 μ) := by
  suffices hh : ∀ μ0 : Mem, Fr (WX1_ofGuest) μ0 μ → FrO (WX1_ofGuest) μ0 Prod.snd (fX1_ofGuest a1 t2 t3 a4 a5 a6 μ) from hh μ Fr.rfl
  intro μ0 hμ
  unfold fX1_ofGuest
  refine fr_bv (frX1_setSunday t2 t3 a5 μ) hμ (by first | exact sub_mem (by decide) | (refine sub_mem ?_; simp [WX1_setSunday, WX1_ofGuest]; done) | (intro a9 j9 h9; simp [WX1_setSunday, inW] at h9; simp [WX1_ofGuest, inW]; omega)) fun q1 hq1 => ?_
  refine fr_g ?_
  refine fr_wI hq1 (inw_n (by decide)) fun μ2 hμ2 => ?_
  refine fr_g ?_
  refine fr_wI hμ2 (inw_n (by decide)) fun μ3 hμ3 => ?_
  refine fr_g ?_
  refine fr_wI hμ3 (inw_n (by decide)) fun μ4 hμ4 => ?_
  refine fr_g ?_
  refine fr_wI hμ4 (inw_n (by decide)) fun μ5 hμ5 => ?_
  refine fr_wI hμ5 (inw_n (by decide)) fun μ6 hμ6 => ?_
  refine fr_wI hμ6 (inw_n (by decide)) fun μ7 hμ7 => ?_
  refine fr_bm (frX1_answerHeld (t2 + 6) a1 μ7) hμ7 (by first | exact sub_mem (by decide) | (refine sub_mem ?_; simp [WX1_answerHeld, WX1_ofGuest]; done) | (intro a9 j9 h9; simp [WX1_answerHeld, inW] at h9; simp [WX1_ofGuest, inW]; omega)) fun q8 hq8 => ?_
  exact fr_ret hq8
def WX1_ofGuestNow : List (Nat × Nat × Option Nat) := [(181, 1, none), (182, 1, none)]
set_option maxRecDepth 100000 in
theorem frX1_ofGuestNow  (a1 : Int32) (t2 : Nat) (t3 : Nat) (a4 : Int32) (μ : Mem) : FrO (WX1_ofGuestNow) μ Prod.snd (fX1_ofGuestNow a1 t2 t3 a4 μ) := by
  suffices hh : ∀ μ0 : Mem, Fr (WX1_ofGuestNow) μ0 μ → FrO (WX1_ofGuestNow) μ0 Prod.snd (fX1_ofGuestNow a1 t2 t3 a4 μ) from hh μ Fr.rfl
  intro μ0 hμ
  unfold fX1_ofGuestNow
  refine fr_bp fun q1 => ?_
  refine fr_if ?_ ?_
  · exact fr_ret hμ
  · refine fr_g ?_
    refine fr_bp fun q2 => ?_
    refine fr_bm (frX1_ofGuest a1 t2 t3 a4 q1 (q2 - 1) μ) hμ (by first | exact sub_mem (by decide) | (refine sub_mem ?_; simp [WX1_ofGuest, WX1_ofGuestNow]; done) | (intro a9 j9 h9; simp [WX1_ofGuest, inW] at h9; simp [WX1_ofGuestNow, inW]; omega)) fun q3 hq3 => ?_
    exact fr_ret hq3
def WX10_guest : List (Nat × Nat × Option Nat) := [(181, 1, none), (182, 1, none)]
set_option maxRecDepth 100000 in
theorem frX10_guest  (a1 : Int32) (a2 : Int32) (μ : Mem) : FrO (WX10_guest) μ Prod.snd (fX10_guest a1 a2 μ) := by
  suffices hh : ∀ μ0 : Mem, Fr (WX10_guest) μ0 μ → FrO (WX10_guest) μ0 Prod.snd (fX10_guest a1 a2 μ) from hh μ Fr.rfl
  intro μ0 hμ
  unfold fX10_guest
  refine fr_bp fun q1 => ?_
  refine fr_if ?_ ?_
  · refine fr_if ?_ ?_
    · refine fr_g ?_
      exact fr_ret hμ
    · refine fr_if ?_ ?_
      · refine fr_g ?_
        exact fr_ret hμ
      · refine fr_if ?_ ?_
        · refine fr_g ?_
          exact fr_ret hμ
        · refine fr_if ?_ ?_
          · refine fr_bp fun q6 => ?_
            exact fr_ret hμ
          · refine fr_if ?_ ?_
            · refine fr_g ?_
              exact fr_ret hμ
            · refine fr_if ?_ ?_
              · refine fr_bp fun q9 => ?_
                refine fr_if ?_ ?_
                · exact fr_ret hμ
                · exact fr_ret hμ
              · refine fr_if ?_ ?_
                · refine fr_bm (frX1_ofGuestNow 0 199 9 a1 μ) hμ (by first | exact sub_mem (by decide) | (refine sub_mem ?_; simp [WX1_ofGuestNow, WX10_guest]; done) | (intro a9 j9 h9; simp [WX1_ofGuestNow, inW] at h9; simp [WX10_guest, inW]; omega)) fun q11 hq11 => ?_
                  exact fr_ret hq11
                · refine fr_if ?_ ?_
                  · refine fr_bm (frX1_ofGuestNow 1 199 9 a1 μ) hμ (by first | exact sub_mem (by decide) | (refine sub_mem ?_; simp [WX1_ofGuestNow, WX10_guest]; done) | (intro a9 j9 h9; simp [WX1_ofGuestNow, inW] at h9; simp [WX10_guest, inW]; omega)) fun q13 hq13 => ?_
                    exact fr_ret hq13
                  · exact fr_ret hμ
  · exact fr_ret hμ
def WX5_copyFrom (t0 : Nat) (t1 : Nat) : List (Nat × Nat × Option Nat) := [(t0, 1, some 0), (t0, 1, some 1), (t0, 1, some 2), (t0, 1, some 3), ((t0 + 1), 1, none), ((t0 + 2), 1, none), ((t0 + 3), 1, none)]
set_option maxRecDepth 100000 in
theorem frX5_copyFrom_34 (t0 : Nat) (t1 : Nat)   (μ0 : Mem)  (K : Mem → Option (Mem)) (hK : ∀  (μ : Mem) (_ : Fr (WX5_copyFrom t0 t1) μ0 μ), FrO (WX5_copyFrom t0 t1) μ0 id (K μ)) : ∀ (n9 : Nat) (v2 : Int32) (μ : Mem) (_ : Fr (WX5_copyFrom t0 t1) μ0 μ), FrO (WX5_copyFrom t0 t1) μ0 id (fX5_copyFrom_34 t0 t1 K n9 v2 μ) := by
  intro n9
  induction n9 with
  | zero => intros; exact fr_none
  | succ n ih =>
    intro v2 μ hμ
    unfold fX5_copyFrom_34
    refine fr_if ?_ ?_
    · refine fr_g ?_
      refine fr_g (fr_wI hμ (by first | exact inw_n (by decide) | exact inw_s (by decide) | (simp [WX5_copyFrom, inW]; done) | (simp [WX5_copyFrom, inW]; omega)) fun μ5 hμ5 => ?_)
      refine fr_g ?_
      refine fr_g (fr_wI hμ5 (by first | exact inw_n (by decide) | exact inw_s (by decide) | (simp [WX5_copyFrom, inW]; done) | (simp [WX5_copyFrom, inW]; omega)) fun μ6 hμ6 => ?_)
      exact ih (v2 + 1) μ6 hμ6
    · exact hK μ hμ
set_option maxRecDepth 100000 in
theorem frX5_copyFrom_71 (t0 : Nat) (t1 : Nat)   (μ0 : Mem)  (K : Mem → Option (Mem)) (hK : ∀  (μ : Mem) (_ : Fr (WX5_copyFrom t0 t1) μ0 μ), FrO (WX5_copyFrom t0 t1) μ0 id (K μ)) : ∀ (n9 : Nat) (v2 : Int32) (μ : Mem) (_ : Fr (WX5_copyFrom t0 t1) μ0 μ), FrO (WX5_copyFrom t0 t1) μ0 id (fX5_copyFrom_71 t0 t1 K n9 v2 μ) := by
  intro n9
  induction n9 with
  | zero => intros; exact fr_none
  | succ n ih =>
    intro v2 μ hμ
    unfold fX5_copyFrom_71
    refine fr_if ?_ ?_
    · refine fr_g ?_
      refine fr_g (fr_wI hμ (by first | exact inw_n (by decide) | exact inw_s (by decide) | (simp [WX5_copyFrom, inW]; done) | (simp [WX5_copyFrom, inW]; omega)) fun μ8 hμ8 => ?_)
      exact ih (v2 + 1) μ8 hμ8
    · exact hK μ hμ
set_option maxRecDepth 100000 in
theorem frX5_copyFrom  (t0 : Nat) (t1 : Nat) (μ : Mem) : FrO (WX5_copyFrom t0 t1) μ id (fX5_copyFrom t0 t1 μ) := by
  suffices hh : ∀ μ0 : Mem, Fr (WX5_copyFrom t0 t1) μ0 μ → FrO (WX5_copyFrom t0 t1) μ0 id (fX5_copyFrom t0 t1 μ) from hh μ Fr.rfl
  intro μ0 hμ
  unfold fX5_copyFrom
  refine fr_wI hμ (by first | exact inw_n (by decide) | exact inw_s (by decide) | (simp [WX5_copyFrom, inW]; done) | (simp [WX5_copyFrom, inW]; omega)) fun μ1 hμ1 => ?_
  refine fr_wI hμ1 (by first | exact inw_n (by decide) | exact inw_s (by decide) | (simp [WX5_copyFrom, inW]; done) | (simp [WX5_copyFrom, inW]; omega)) fun μ2 hμ2 => ?_
  refine fr_wI hμ2 (by first | exact inw_n (by decide) | exact inw_s (by decide) | (simp [WX5_copyFrom, inW]; done) | (simp [WX5_copyFrom, inW]; omega)) fun μ3 hμ3 => ?_
  refine fr_wI hμ3 (by first | exact inw_n (by decide) | exact inw_s (by decide) | (simp [WX5_copyFrom, inW]; done) | (simp [WX5_copyFrom, inW]; omega)) fun μ4 hμ4 => ?_
  refine frX5_copyFrom_34 t0 t1 μ0 _ (fun μ7 hμ7 => ?_) FU 0 μ4 hμ4
  refine frX5_copyFrom_71 t0 t1 μ0 _ (fun μ9 hμ9 => ?_) FU 0 μ7 hμ7
  exact fr_ret hμ9
def WX9_keep : List (Nat × Nat × Option Nat) := [(19, 160, none), (17, 1, some 2), (17, 1, some 0)]
set_option maxRecDepth 100000 in
theorem frX9_keep  (t1 : Nat) (μ : Mem) : FrO (WX9_keep) μ id (fX9_keep t1 μ) := by
  suffices hh : ∀ μ0 : Mem, Fr (WX9_keep) μ0 μ → FrO (WX9_keep) μ0 id (fX9_keep t1 μ) from hh μ Fr.rfl
  intro μ0 hμ
  unfold fX9_keep
  refine fr_gh fun hi1 => ?_
  have ehi1 := inb_lt hi1
  refine fr_bv (frX5_copyFrom (19 + 4 * (μ.1 17 2).toNatClampNeg) t1 μ) hμ (by first | exact sub_mem (by decide) | (refine sub_mem ?_; simp [WX5_copyFrom, WX9_keep]; done) | (intro a9 j9 h9; simp [WX5_copyFrom, inW] at h9; simp [WX9_keep, inW]; omega)) fun q2 hq2 => ?_
  refine fr_wI hq2 (inw_s (by decide)) fun μ3 hμ3 => ?_
  refine fr_wI hμ3 (inw_s (by decide)) fun μ4 hμ4 => ?_
  exact fr_ret hμ4
def WX10_letIn : List (Nat × Nat × Option Nat) := [(19, 160, none), (17, 1, some 2), (17, 1, some 0), (10, 1, none)]
set_option maxRecDepth 100000 in
theorem frX10_letIn  (a1 : Int32) (a2 : Int32) (μ : Mem) : FrO (WX10_letIn) μ Prod.snd (fX10_letIn a1 a2 μ) := by
  suffices hh : ∀ μ0 : Mem, Fr (WX10_letIn) μ0 μ → FrO (WX10_letIn) μ0 Prod.snd (fX10_letIn a1 a2 μ) from hh μ Fr.rfl
  intro μ0 hμ
  unfold fX10_letIn
  refine fr_bp fun q1 => ?_
  refine fr_if ?_ ?_
  · refine fr_bp fun q2 => ?_
    refine fr_if ?_ ?_
    · refine fr_bp fun q3 => ?_
      refine fr_if ?_ ?_
      · refine fr_bp fun q4 => ?_
        refine fr_if ?_ ?_
        · refine fr_bv (frX9_keep 9 μ) hμ (by first | exact sub_mem (by decide) | (refine sub_mem ?_; simp [WX9_keep, WX10_letIn]; done) | (intro a9 j9 h9; simp [WX9_keep, inW] at h9; simp [WX10_letIn, inW]; omega)) fun q5 hq5 => ?_
          refine fr_g ?_
          refine fr_g (fr_wI hq5 (inw_n (by decide)) fun μ6 hμ6 => ?_)
          exact fr_ret hμ6
        · exact fr_ret hμ
      · exact fr_ret hμ
    · exact fr_ret hμ
  · exact fr_ret hμ
def WX5_takeOut (t0 : Nat) : List (Nat × Nat × Option Nat) := [((t0 + 1), 1, none)]
set_option maxRecDepth 100000 in
theorem frX5_takeOut_2 (t0 : Nat)  (v1 : Int32) (μ0 : Mem)  (K : Mem → Option (Mem)) (hK : ∀  (μ : Mem) (_ : Fr (WX5_takeOut t0) μ0 μ), FrO (WX5_takeOut t0) μ0 id (K μ)) : ∀ (n9 : Nat) (v2 : Int32) (μ : Mem) (_ : Fr (WX5_takeOut t0) μ0 μ), FrO (WX5_takeOut t0) μ0 id (fX5_takeOut_2 t0 v1 K n9 v2 μ) := by
  intro n9
  induction n9 with
  | zero => intros; exact fr_none
  | succ n ih =>
    intro v2 μ hμ
    unfold fX5_takeOut_2
    refine fr_if ?_ ?_
    · refine fr_g ?_
      refine fr_g (fr_wI hμ (by first | exact inw_n (by decide) | exact inw_s (by decide) | (simp [WX5_takeOut, inW]; done) | (simp [WX5_takeOut, inW]; omega)) fun μ1 hμ1 => ?_)
      exact ih (v2 + 1) μ1 hμ1
    · exact hK μ hμ
set_option maxRecDepth 100000 in
theorem frX5_takeOut  (t0 : Nat) (a1 : Int32) (μ : Mem) : FrO (WX5_takeOut t0) μ id (fX5_takeOut t0 a1 μ) := by
  suffices hh : ∀ μ0 : Mem, Fr (WX5_takeOut t0) μ0 μ → FrO (WX5_takeOut t0) μ0 id (fX5_takeOut t0 a1 μ) from hh μ Fr.rfl
  intro μ0 hμ
  unfold fX5_takeOut
  refine frX5_takeOut_2 t0 a1 μ0 _ (fun μ2 hμ2 => ?_) FU 0 μ hμ
  exact fr_ret hμ2
def WX10_putOut : List (Nat × Nat × Option Nat) := [(19, 160, none), (17, 1, some 2), (17, 1, some 0), (10, 1, none)]
set_option maxRecDepth 100000 in
theorem frX10_putOut  (a1 : Int32) (μ : Mem) : FrO (WX10_putOut) μ Prod.snd (fX10_putOut a1 μ) := by
  suffices hh : ∀ μ0 : Mem, Fr (WX10_putOut) μ0 μ → FrO (WX10_putOut) μ0 Prod.snd (fX10_putOut a1 μ) from hh μ Fr.rfl
  intro μ0 hμ
  unfold fX10_putOut
  refine fr_bp fun q1 => ?_
  refine fr_if ?_ ?_
  · refine fr_bp fun q2 => ?_
    refine fr_if ?_ ?_
    · exact fr_ret hμ
    · refine fr_bv (frX9_keep 9 μ) hμ (by first | exact sub_mem (by decide) | (refine sub_mem ?_; simp [WX9_keep, WX10_putOut]; done) | (intro a9 j9 h9; simp [WX9_keep, inW] at h9; simp [WX10_putOut, inW]; omega)) fun q3 hq3 => ?_
      refine fr_bv (frX5_takeOut 9 a1 q3) hq3 (by first | exact sub_mem (by decide) | (refine sub_mem ?_; simp [WX5_takeOut, WX10_putOut]; done) | (intro a9 j9 h9; simp [WX5_takeOut, inW] at h9; simp [WX10_putOut, inW]; omega)) fun q4 hq4 => ?_
      exact fr_ret hq4
  · exact fr_ret hμ
def WX10_sell : List (Nat × Nat × Option Nat) := [(19, 160, none), (17, 1, some 2), (17, 1, some 0), (181, 1, none), (182, 1, none), (9, 1, some 3), (9, 1, some 1)]
set_option maxRecDepth 100000 in
theorem frX10_sell  (a1 : Int32) (μ : Mem) : FrO (WX10_sell) μ Prod.snd (fX10_sell a1 μ) := by
  suffices hh : ∀ μ0 : Mem, Fr (WX10_sell) μ0 μ → FrO (WX10_sell) μ0 Prod.snd (fX10_sell a1 μ) from hh μ Fr.rfl
  intro μ0 hμ
  unfold fX10_sell
  refine fr_bp fun q1 => ?_
  refine fr_if ?_ ?_
  · refine fr_g ?_
    refine fr_if ?_ ?_
    · refine fr_bp fun q2 => ?_
      refine fr_if ?_ ?_
      · exact fr_ret hμ
      · refine fr_bv (frX9_keep 9 μ) hμ (by first | exact sub_mem (by decide) | (refine sub_mem ?_; simp [WX9_keep, WX10_sell]; done) | (intro a9 j9 h9; simp [WX9_keep, inW] at h9; simp [WX10_sell, inW]; omega)) fun q3 hq3 => ?_
        refine fr_bm (frX1_ofSunday 3 199 9 a1 q3) hq3 (by first | exact sub_mem (by decide) | (refine sub_mem ?_; simp [WX1_ofSunday, WX10_sell]; done) | (intro a9 j9 h9; simp [WX1_ofSunday, inW] at h9; simp [WX10_sell, inW]; omega)) fun q4 hq4 => ?_
        refine fr_wI hq4 (inw_s (by decide)) fun μ5 hμ5 => ?_
        refine fr_wI hμ5 (inw_s (by decide)) fun μ6 hμ6 => ?_
        exact fr_ret hμ6
    · exact fr_ret hμ
  · exact fr_ret hμ
def WX10_air : List (Nat × Nat × Option Nat) := [(19, 160, none), (17, 1, some 2), (17, 1, some 0), (11, 1, none), (9, 1, some 1)]
set_option maxRecDepth 100000 in
theorem frX10_air  (a1 : Int32) (μ : Mem) : FrO (WX10_air) μ Prod.snd (fX10_air a1 μ) := by
  suffices hh : ∀ μ0 : Mem, Fr (WX10_air) μ0 μ → FrO (WX10_air) μ0 Prod.snd (fX10_air a1 μ) from hh μ Fr.rfl
  intro μ0 hμ
  unfold fX10_air
  refine fr_bp fun q1 => ?_
  refine fr_if ?_ ?_
  · refine fr_g ?_
    refine fr_if ?_ ?_
    · refine fr_bp fun q2 => ?_
      refine fr_if ?_ ?_
      · exact fr_ret hμ
      · refine fr_g ?_
        refine fr_if ?_ ?_
        · exact fr_ret hμ
        · refine fr_bv (frX9_keep 9 μ) hμ (by first | exact sub_mem (by decide) | (refine sub_mem ?_; simp [WX9_keep, WX10_air]; done) | (intro a9 j9 h9; simp [WX9_keep, inW] at h9; simp [WX10_air, inW]; omega)) fun q3 hq3 => ?_
          refine fr_g (fr_wI hq3 (inw_n (by decide)) fun μ4 hμ4 => ?_)
          refine fr_if ?_ ?_
          · refine fr_wI hμ4 (inw_s (by decide)) fun μ5 hμ5 => ?_
            exact fr_ret hμ5
          · exact fr_ret hμ4
    · exact fr_ret hμ
  · exact fr_ret hμ
def WX1_payAndRest (t1 : Nat) (t2 : Nat) : List (Nat × Nat × Option Nat) := [(181, 1, none), (182, 1, none), (t2, 1, some 1), ((t2 + 3), 1, none)]
set_option maxRecDepth 100000 in
theorem frX1_payAndRest_2 (t1 : Nat) (t2 : Nat)   (μ0 : Mem)  (K : Mem → Option (Mem)) (hK : ∀  (μ : Mem) (_ : Fr (WX1_payAndRest t1 t2) μ0 μ), FrO (WX1_payAndRest t1 t2) μ0 id (K μ)) : ∀ (n9 : Nat) (v3 : Int32) (μ : Mem) (_ : Fr (WX1_payAndRest t1 t2) μ0 μ), FrO (WX1_payAndRest t1 t2) μ0 id (fX1_payAndRest_2 t1 t2 K n9 v3 μ) := by
  intro n9
  induction n9 with
  | zero => intros; exact fr_none
  | succ n ih =>
    intro v3 μ hμ
    unfold fX1_payAndRest_2
    refine fr_if ?_ ?_
    · refine fr_bp fun q1 => ?_
      refine fr_if ?_ ?_
      · refine fr_bp fun q2 => ?_
        refine fr_if ?_ ?_
        · exact ih (v3 + 1) μ hμ
        · refine fr_g ?_
          refine fr_g (fr_wI hμ (by first | exact inw_n (by decide) | exact inw_s (by decide) | (simp [WX1_payAndRest, inW]; done) | (simp [WX1_payAndRest, inW]; omega)) fun μ3 hμ3 => ?_)
          exact ih (v3 + 1) μ3 hμ3
      · refine fr_g ?_
        refine fr_bp fun q4 => ?_
        refine fr_bm (frX1_ofGuest 0 t1 t2 v3 q1 (q4 - 1) μ) hμ (by first | exact sub_mem (by decide) | (refine sub_mem ?_; simp [WX1_ofGuest, WX1_payAndRest]; done) | (intro a9 j9 h9; simp [WX1_ofGuest, inW] at h9; simp [WX1_payAndRest, inW]; omega)) fun q5 hq5 => ?_
        refine fr_wI hq5 (by first | exact inw_n (by decide) | exact inw_s (by decide) | (simp [WX1_payAndRest, inW]; done) | (simp [WX1_payAndRest, inW]; omega)) fun μ6 hμ6 => ?_
        refine fr_bm (frX1_ofGuest 1 t1 t2 v3 q1 (q4 - 1) μ6) hμ6 (by first | exact sub_mem (by decide) | (refine sub_mem ?_; simp [WX1_ofGuest, WX1_payAndRest]; done) | (intro a9 j9 h9; simp [WX1_ofGuest, inW] at h9; simp [WX1_payAndRest, inW]; omega)) fun q7 hq7 => ?_
        refine fr_g ?_
        refine fr_g (fr_wI hq7 (by first | exact inw_n (by decide) | exact inw_s (by decide) | (simp [WX1_payAndRest, inW]; done) | (simp [WX1_payAndRest, inW]; omega)) fun μ8 hμ8 => ?_)
        exact ih (v3 + 1) μ8 hμ8
    · exact hK μ hμ
set_option maxRecDepth 100000 in
theorem frX1_payAndRest  (t1 : Nat) (t2 : Nat) (μ : Mem) : FrO (WX1_payAndRest t1 t2) μ id (fX1_payAndRest t1 t2 μ) := by
  suffices hh : ∀ μ0 : Mem, Fr (WX1_payAndRest t1 t2) μ0 μ → FrO (WX1_payAndRest t1 t2) μ0 id (fX1_payAndRest t1 t2 μ) from hh μ Fr.rfl
  intro μ0 hμ
  unfold fX1_payAndRest
  refine frX1_payAndRest_2 t1 t2 μ0 _ (fun μ9 hμ9 => ?_) FU 0 μ hμ
  exact fr_ret hμ9
def WX1_wear (t1 : Nat) (t2 : Nat) : List (Nat × Nat × Option Nat) := [(181, 1, none), (182, 1, none), ((t2 + 2), 1, none)]
set_option maxRecDepth 100000 in
theorem frX1_wear_2 (t1 : Nat) (t2 : Nat)   (μ0 : Mem)  (K : Mem → Option (Mem)) (hK : ∀  (μ : Mem) (_ : Fr (WX1_wear t1 t2) μ0 μ), FrO (WX1_wear t1 t2) μ0 id (K μ)) : ∀ (n9 : Nat) (v3 : Int32) (μ : Mem) (_ : Fr (WX1_wear t1 t2) μ0 μ), FrO (WX1_wear t1 t2) μ0 id (fX1_wear_2 t1 t2 K n9 v3 μ) := by
  intro n9
  induction n9 with
  | zero => intros; exact fr_none
  | succ n ih =>
    intro v3 μ hμ
    unfold fX1_wear_2
    refine fr_if ?_ ?_
    · refine fr_g ?_
      refine fr_if ?_ ?_
      · exact ih (v3 + 1) μ hμ
      · refine fr_g ?_
        refine fr_bm (frX1_ofSunday 2 t1 t2 v3 μ) hμ (by first | exact sub_mem (by decide) | (refine sub_mem ?_; simp [WX1_ofSunday, WX1_wear]; done) | (intro a9 j9 h9; simp [WX1_ofSunday, inW] at h9; simp [WX1_wear, inW]; omega)) fun q1 hq1 => ?_
        refine fr_g (fr_wI hq1 (by first | exact inw_n (by decide) | exact inw_s (by decide) | (simp [WX1_wear, inW]; done) | (simp [WX1_wear, inW]; omega)) fun μ2 hμ2 => ?_)
        exact ih (v3 + 1) μ2 hμ2
    · exact hK μ hμ
set_option maxRecDepth 100000 in
theorem frX1_wear  (t1 : Nat) (t2 : Nat) (μ : Mem) : FrO (WX1_wear t1 t2) μ id (fX1_wear t1 t2 μ) := by
  suffices hh : ∀ μ0 : Mem, Fr (WX1_wear t1 t2) μ0 μ → FrO (WX1_wear t1 t2) μ0 id (fX1_wear t1 t2 μ) from hh μ Fr.rfl
  intro μ0 hμ
  unfold fX1_wear
  refine frX1_wear_2 t1 t2 μ0 _ (fun μ3 hμ3 => ?_) FU 0 μ hμ
  exact fr_ret hμ3
def WX1_bury (t1 : Nat) (t2 : Nat) : List (Nat × Nat × Option Nat) := [(t2, 1, some 2), ((t2 + 1), 1, none)]
set_option maxRecDepth 100000 in
theorem frX1_bury_3 (t1 : Nat) (t2 : Nat)  (v3 : Int32) (μ0 : Mem)  (K : Mem → Option (Mem)) (hK : ∀  (μ : Mem) (_ : Fr (WX1_bury t1 t2) μ0 μ), FrO (WX1_bury t1 t2) μ0 id (K μ)) : ∀ (n9 : Nat) (v4 : Int32) (μ : Mem) (_ : Fr (WX1_bury t1 t2) μ0 μ), FrO (WX1_bury t1 t2) μ0 id (fX1_bury_3 t1 t2 v3 K n9 v4 μ) := by
  intro n9
  induction n9 with
  | zero => intros; exact fr_none
  | succ n ih =>
    intro v4 μ hμ
    unfold fX1_bury_3
    refine fr_if ?_ ?_
    · refine fr_g ?_
      refine fr_nmv fun x1 => ?_
      refine fr_if ?_ ?_
      · exact ih (v4 + 1) μ hμ
      · refine fr_bp fun q2 => ?_
        refine fr_if ?_ ?_
        · exact ih (v4 + 1) μ hμ
        · refine fr_bp fun q3 => ?_
          refine fr_if ?_ ?_
          · refine fr_wI hμ (by first | exact inw_n (by decide) | exact inw_s (by decide) | (simp [WX1_bury, inW]; done) | (simp [WX1_bury, inW]; omega)) fun μ4 hμ4 => ?_
            refine fr_bv (frX5_takeOut t2 v4 μ4) hμ4 (by first | exact sub_mem (by decide) | (refine sub_mem ?_; simp [WX5_takeOut, WX1_bury]; done) | (intro a9 j9 h9; simp [WX5_takeOut, inW] at h9; simp [WX1_bury, inW]; omega)) fun q5 hq5 => ?_
            exact ih (v4 + 1) q5 hq5
          · exact ih (v4 + 1) μ hμ
    · exact hK μ hμ
set_option maxRecDepth 100000 in
theorem frX1_bury  (t1 : Nat) (t2 : Nat) (a3 : Int32) (μ : Mem) : FrO (WX1_bury t1 t2) μ id (fX1_bury t1 t2 a3 μ) := by
  suffices hh : ∀ μ0 : Mem, Fr (WX1_bury t1 t2) μ0 μ → FrO (WX1_bury t1 t2) μ0 id (fX1_bury t1 t2 a3 μ) from hh μ Fr.rfl
  intro μ0 hμ
  unfold fX1_bury
  refine frX1_bury_3 t1 t2 a3 μ0 _ (fun μ6 hμ6 => ?_) FU 0 μ hμ
  exact fr_ret hμ6
def WX1_passDeadlyWeeks (t1 : Nat) (t2 : Nat) : List (Nat × Nat × Option Nat) := [(181, 1, none), (182, 1, none), (t2, 1, some 1), ((t2 + 3), 1, none), ((t2 + 2), 1, none), (t2, 1, some 2), ((t2 + 1), 1, none), (t2, 1, some 0)]
set_option maxRecDepth 100000 in
theorem frX1_passDeadlyWeeks_3 (t1 : Nat) (t2 : Nat)  (v3 : Int32) (v4 : Int32) (μ0 : Mem)  (K : Mem → Option (Mem)) (hK : ∀  (μ : Mem) (_ : Fr (WX1_passDeadlyWeeks t1 t2) μ0 μ), FrO (WX1_passDeadlyWeeks t1 t2) μ0 id (K μ)) : ∀ (n9 : Nat) (v5 : Int32) (μ : Mem) (_ : Fr (WX1_passDeadlyWeeks t1 t2) μ0 μ), FrO (WX1_passDeadlyWeeks t1 t2) μ0 id (fX1_passDeadlyWeeks_3 t1 t2 v3 v4 K n9 v5 μ) := by
  intro n9
  induction n9 with
  | zero => intros; exact fr_none
  | succ n ih =>
    intro v5 μ hμ
    unfold fX1_passDeadlyWeeks_3
    refine fr_if ?_ ?_
    · refine fr_bv (frX1_payAndRest t1 t2 μ) hμ (by first | exact sub_mem (by decide) | (refine sub_mem ?_; simp [WX1_payAndRest, WX1_passDeadlyWeeks]; done) | (intro a9 j9 h9; simp [WX1_payAndRest, inW] at h9; simp [WX1_passDeadlyWeeks, inW]; omega)) fun q1 hq1 => ?_
      refine fr_bv (frX1_wear t1 t2 q1) hq1 (by first | exact sub_mem (by decide) | (refine sub_mem ?_; simp [WX1_wear, WX1_passDeadlyWeeks]; done) | (intro a9 j9 h9; simp [WX1_wear, inW] at h9; simp [WX1_passDeadlyWeeks, inW]; omega)) fun q2 hq2 => ?_
      refine fr_bv (frX1_bury t1 t2 v4 q2) hq2 (by first | exact sub_mem (by decide) | (refine sub_mem ?_; simp [WX1_bury, WX1_passDeadlyWeeks]; done) | (intro a9 j9 h9; simp [WX1_bury, inW] at h9; simp [WX1_passDeadlyWeeks, inW]; omega)) fun q3 hq3 => ?_
      refine fr_wI hq3 (by first | exact inw_n (by decide) | exact inw_s (by decide) | (simp [WX1_passDeadlyWeeks, inW]; done) | (simp [WX1_passDeadlyWeeks, inW]; omega)) fun μ4 hμ4 => ?_
      exact ih (v5 + 1) μ4 hμ4
    · exact hK μ hμ
set_option maxRecDepth 100000 in
theorem frX1_passDeadlyWeeks  (t1 : Nat) (t2 : Nat) (a3 : Int32) (a4 : Int32) (μ : Mem) : FrO (WX1_passDeadlyWeeks t1 t2) μ id (fX1_passDeadlyWeeks t1 t2 a3 a4 μ) := by
  suffices hh : ∀ μ0 : Mem, Fr (WX1_passDeadlyWeeks t1 t2) μ0 μ → FrO (WX1_passDeadlyWeeks t1 t2) μ0 id (fX1_passDeadlyWeeks t1 t2 a3 a4 μ) from hh μ Fr.rfl
  intro μ0 hμ
  unfold fX1_passDeadlyWeeks
  refine frX1_passDeadlyWeeks_3 t1 t2 a3 a4 μ0 _ (fun μ5 hμ5 => ?_) FU 0 μ hμ
  exact fr_ret hμ5
def WX10_weeks : List (Nat × Nat × Option Nat) := [(19, 160, none), (17, 1, some 2), (17, 1, some 0), (181, 1, none), (182, 1, none), (9, 1, some 1), (12, 1, none), (11, 1, none), (9, 1, some 2), (10, 1, none), (9, 1, some 0)]
set_option maxRecDepth 100000 in
theorem frX10_weeks  (a1 : Int32) (μ : Mem) : FrO (WX10_weeks) μ Prod.snd (fX10_weeks a1 μ) := by
  suffices hh : ∀ μ0 : Mem, Fr (WX10_weeks) μ0 μ → FrO (WX10_weeks) μ0 Prod.snd (fX10_weeks a1 μ) from hh μ Fr.rfl
  intro μ0 hμ
  unfold fX10_weeks
  refine fr_bp fun q1 => ?_
  refine fr_if ?_ ?_
  · refine fr_if ?_ ?_
    · refine fr_bv (frX9_keep 9 μ) hμ (by first | exact sub_mem (by decide) | (refine sub_mem ?_; simp [WX9_keep, WX10_weeks]; done) | (intro a9 j9 h9; simp [WX9_keep, inW] at h9; simp [WX10_weeks, inW]; omega)) fun q2 hq2 => ?_
      refine fr_bv (frX1_passDeadlyWeeks 199 9 a1 (q2.1 199 9) q2) hq2 (by first | exact sub_mem (by decide) | (refine sub_mem ?_; simp [WX1_passDeadlyWeeks, WX10_weeks]; done) | (intro a9 j9 h9; simp [WX1_passDeadlyWeeks, inW] at h9; simp [WX10_weeks, inW]; omega)) fun q3 hq3 => ?_
      exact fr_ret hq3
    · exact fr_ret hμ
  · exact fr_ret hμ
def WX9_takeBack (t1 : Nat) : List (Nat × Nat × Option Nat) := [(17, 1, some 2), (t1, 1, some 0), (t1, 1, some 1), (t1, 1, some 2), (t1, 1, some 3), ((t1 + 1), 1, none), ((t1 + 2), 1, none), ((t1 + 3), 1, none), (17, 1, some 0)]
set_option maxRecDepth 100000 in
theorem frX9_takeBack  (t1 : Nat) (μ : Mem) : FrO (WX9_takeBack t1) μ Prod.snd (fX9_takeBack t1 μ) := by
  suffices hh : ∀ μ0 : Mem, Fr (WX9_takeBack t1) μ0 μ → FrO (WX9_takeBack t1) μ0 Prod.snd (fX9_takeBack t1 μ) from hh μ Fr.rfl
  intro μ0 hμ
  unfold fX9_takeBack
  refine fr_if ?_ ?_
  · exact fr_ret hμ
  · refine fr_wI hμ (by first | exact inw_n (by decide) | exact inw_s (by decide) | (simp [WX9_takeBack, inW]; done) | (simp [WX9_takeBack, inW]; omega)) fun μ1 hμ1 => ?_
    refine fr_gh fun hi2 => ?_
    have ehi2 := inb_lt hi2
    refine fr_bv (frX5_copyFrom t1 (19 + 4 * (μ1.1 17 2).toNatClampNeg) μ1) hμ1 (by first | exact sub_mem (by decide) | (refine sub_mem ?_; simp [WX5_copyFrom, WX9_takeBack]; done) | (intro a9 j9 h9; simp [WX5_copyFrom, inW] at h9; simp [WX9_takeBack, inW]; omega)) fun q3 hq3 => ?_
    refine fr_wI hq3 (by first | exact inw_n (by decide) | exact inw_s (by decide) | (simp [WX9_takeBack, inW]; done) | (simp [WX9_takeBack, inW]; omega)) fun μ4 hμ4 => ?_
    exact fr_ret hμ4
def WX10_undo : List (Nat × Nat × Option Nat) := [(17, 1, some 2), (9, 1, some 0), (9, 1, some 1), (9, 1, some 2), (9, 1, some 3), (10, 1, none), (11, 1, none), (12, 1, none), (17, 1, some 0)]
set_option maxRecDepth 100000 in
theorem frX10_undo   (μ : Mem) : FrO (WX10_undo) μ Prod.snd (fX10_undo  μ) := by
  suffices hh : ∀ μ0 : Mem, Fr (WX10_undo) μ0 μ → FrO (WX10_undo) μ0 Prod.snd (fX10_undo  μ) from hh μ Fr.rfl
  intro μ0 hμ
  unfold fX10_undo
  refine fr_bm (frX9_takeBack 9 μ) hμ (by first | exact sub_mem (by decide) | (refine sub_mem ?_; simp [WX9_takeBack, WX10_undo]; done) | (intro a9 j9 h9; simp [WX9_takeBack, inW] at h9; simp [WX10_undo, inW]; omega)) fun q1 hq1 => ?_
  exact fr_ret hq1
def WX3_valueSets : List (Nat × Nat × Option Nat) := [(181, 1, none), (182, 1, none), (195, 1, none), (185, 10, none)]
set_option maxRecDepth 100000 in
theorem frX3_valueSets_12 (t2 : Nat) (t3 : Nat)  (v4 : Int32) (v5 : Int32) (μ0 : Mem)  (K : Mem → Option (Mem)) (hK : ∀  (μ : Mem) (_ : Fr (WX3_valueSets) μ0 μ), FrO (WX3_valueSets) μ0 id (K μ)) : ∀ (n9 : Nat) (v6 : Int32) (μ : Mem) (_ : Fr (WX3_valueSets) μ0 μ), FrO (WX3_valueSets) μ0 id (fX3_valueSets_12 t2 t3 v4 v5 K n9 v6 μ) := by
  intro n9
  induction n9 with
  | zero => intros; exact fr_none
  | succ n ih =>
    intro v6 μ hμ
    unfold fX3_valueSets_12
    refine fr_if ?_ ?_
    · refine fr_if ?_ ?_
      · refine fr_bm (frX1_ofGuest 0 t2 t3 v6 v4 0 μ) hμ (by first | exact sub_mem (by decide) | (refine sub_mem ?_; simp [WX1_ofGuest, WX3_valueSets]; done) | (intro a9 j9 h9; simp [WX1_ofGuest, inW] at h9; simp [WX3_valueSets, inW]; omega)) fun q3 hq3 => ?_
        refine fr_g (fr_wI hq3 (inw_n (by decide)) fun μ4 hμ4 => ?_)
        exact ih (v6 + 1) μ4 hμ4
      · refine fr_g (fr_wI hμ (inw_n (by decide)) fun μ2 hμ2 => ?_)
        exact ih (v6 + 1) μ2 hμ2
    · exact hK μ hμ
set_option maxRecDepth 100000 in
theorem frX3_valueSets_j114_78 (t2 : Nat) (t3 : Nat) (r6 : Nat) (hr6 : 185 ≤ r6 ∧ r6 < 195) (v5 : Int32) (v7 : Int32) (s0 : Int32) (μ0 : Mem) (μ : Mem) (hμ : Fr (WX3_valueSets) μ0 μ) (KB : Int32 → Mem → Option (Mem)) (hB : ∀ (u7 : Int32) (um : Mem) (_ : Fr (WX3_valueSets) μ0 um), FrO (WX3_valueSets) μ0 id (KB u7 um)) (K : Mem → Option (Mem)) (hK : ∀  (um : Mem) (_ : Fr (WX3_valueSets) μ0 um), FrO (WX3_valueSets) μ0 id (K um)) : FrO (WX3_valueSets) μ0 id (fX3_valueSets_j114_78 t2 t3 r6 KB K v5 v7 s0 μ) := by
  unfold fX3_valueSets_j114_78
  refine fr_if ?_ ?_
  · refine fr_g (fr_wI hμ (by first | exact inw_n (by decide) | exact inw_s (by decide) | (simp [WX3_valueSets, inW]; done) | (simp [WX3_valueSets, inW]; omega)) fun μ8 hμ8 => ?_)
    exact hB (v7 + 1) μ8 hμ8
  · refine fr_g ?_
    refine fr_bp fun q9 => ?_
    refine fr_g ?_
    refine fr_g (fr_wI hμ (by first | exact inw_n (by decide) | exact inw_s (by decide) | (simp [WX3_valueSets, inW]; done) | (simp [WX3_valueSets, inW]; omega)) fun μ10 hμ10 => ?_)
    exact hB (v7 + 1) μ10 hμ10
set_option maxRecDepth 100000 in
theorem frX3_valueSets_78 (t2 : Nat) (t3 : Nat) (r6 : Nat) (hr6 : 185 ≤ r6 ∧ r6 < 195) (v5 : Int32) (μ0 : Mem)  (K : Mem → Option (Mem)) (hK : ∀  (μ : Mem) (_ : Fr (WX3_valueSets) μ0 μ), FrO (WX3_valueSets) μ0 id (K μ)) : ∀ (n9 : Nat) (v7 : Int32) (μ : Mem) (_ : Fr (WX3_valueSets) μ0 μ), FrO (WX3_valueSets) μ0 id (fX3_valueSets_78 t2 t3 r6 v5 K n9 v7 μ) := by
  intro n9
  induction n9 with
  | zero => intros; exact fr_none
  | succ n ih =>
    intro v7 μ hμ
    unfold fX3_valueSets_78
    refine fr_if ?_ ?_
    · refine fr_if ?_ ?_
      · refine fr_g ?_
        refine fr_if ?_ ?_
        · exact frX3_valueSets_j114_78 t2 t3 r6 (by omega) v5 v7 0 μ0 μ hμ _ (fun z0 zm hz => ih z0 zm hz) K hK
        · exact frX3_valueSets_j114_78 t2 t3 r6 (by omega) v5 v7 1 μ0 μ hμ _ (fun z0 zm hz => ih z0 zm hz) K hK
      · exact frX3_valueSets_j114_78 t2 t3 r6 (by omega) v5 v7 0 μ0 μ hμ _ (fun z0 zm hz => ih z0 zm hz) K hK
    · exact hK μ hμ
set_option maxRecDepth 100000 in
theorem frX3_valueSets  (t2 : Nat) (t3 : Nat) (a4 : Int32) (μ : Mem) : FrO (WX3_valueSets) μ id (fX3_valueSets t2 t3 a4 μ) := by
  suffices hh : ∀ μ0 : Mem, Fr (WX3_valueSets) μ0 μ → FrO (WX3_valueSets) μ0 id (fX3_valueSets t2 t3 a4 μ) from hh μ Fr.rfl
  intro μ0 hμ
  unfold fX3_valueSets
  refine fr_bp fun q1 => ?_
  refine frX3_valueSets_12 t2 t3 a4 q1 μ0 _ (fun μ5 hμ5 => ?_) FU 0 μ hμ
  refine fr_gh fun hi6 => ?_
  have ehi6 := inb_lt hi6
  refine fr_wI hμ5 (by first | exact inw_n (by decide) | exact inw_s (by decide) | (simp [WX3_valueSets, inW]; done) | (simp [WX3_valueSets, inW]; omega)) fun μ7 hμ7 => ?_
  refine frX3_valueSets_78 t2 t3 (185 + a4.toNatClampNeg) (by omega) q1 μ0 _ (fun μ11 hμ11 => ?_) FU 1 μ7 hμ7
  exact fr_ret hμ11
def WX10_alone : List (Nat × Nat × Option Nat) := [(181, 1, none), (182, 1, none), (195, 1, none), (185, 10, none)]
set_option maxRecDepth 100000 in
theorem frX10_alone  (a1 : Int32) (a2 : Int32) (μ : Mem) : FrO (WX10_alone) μ Prod.snd (fX10_alone a1 a2 μ) := by
  suffices hh : ∀ μ0 : Mem, Fr (WX10_alone) μ0 μ → FrO (WX10_alone) μ0 Prod.snd (fX10_alone a1 a2 μ) from hh μ Fr.rfl
  intro μ0 hμ
  unfold fX10_alone
  refine fr_bp fun q1 => ?_
  refine fr_if ?_ ?_
  · refine fr_bp fun q2 => ?_
    refine fr_if ?_ ?_
    · refine fr_bv (frX3_valueSets 199 9 a1 μ) hμ (by first | exact sub_mem (by decide) | (refine sub_mem ?_; simp [WX3_valueSets, WX10_alone]; done) | (intro a9 j9 h9; simp [WX3_valueSets, inW] at h9; simp [WX10_alone, inW]; omega)) fun q3 hq3 => ?_
      refine fr_bp fun q4 => ?_
      refine fr_if ?_ ?_
      · refine fr_gh fun hi5 => ?_
        have ehi5 := inb_lt hi5
        refine fr_g ?_
        exact fr_ret hq3
      · exact fr_ret hq3
    · exact fr_ret hμ
  · exact fr_ret hμ
def WX3_letAll : List (Nat × Nat × Option Nat) := [(185, 10, none)]
set_option maxRecDepth 100000 in
theorem frX3_letAll_2 (t1 : Nat)   (μ0 : Mem)  (K : Mem → Option (Mem)) (hK : ∀  (μ : Mem) (_ : Fr (WX3_letAll) μ0 μ), FrO (WX3_letAll) μ0 id (K μ)) : ∀ (n9 : Nat) (v2 : Int32) (μ : Mem) (_ : Fr (WX3_letAll) μ0 μ), FrO (WX3_letAll) μ0 id (fX3_letAll_2 t1 K n9 v2 μ) := by
  intro n9
  induction n9 with
  | zero => intros; exact fr_none
  | succ n ih =>
    intro v2 μ hμ
    unfold fX3_letAll_2
    refine fr_if ?_ ?_
    · refine fr_g (fr_wI hμ (inw_n (by decide)) fun μ1 hμ1 => ?_)
      exact ih (v2 + 1) μ1 hμ1
    · exact hK μ hμ
set_option maxRecDepth 100000 in
theorem frX3_letAll_36 (t1 : Nat)  (v2 : Int32) (μ0 : Mem)  (K : Mem → Option (Mem)) (hK : ∀  (μ : Mem) (_ : Fr (WX3_letAll) μ0 μ), FrO (WX3_letAll) μ0 id (K μ)) : ∀ (n9 : Nat) (v3 : Int32) (μ : Mem) (_ : Fr (WX3_letAll) μ0 μ), FrO (WX3_letAll) μ0 id (fX3_letAll_36 t1 v2 K n9 v3 μ) := by
  intro n9
  induction n9 with
  | zero => intros; exact fr_none
  | succ n ih =>
    intro v3 μ hμ
    unfold fX3_letAll_36
    refine fr_if ?_ ?_
    · refine fr_gh fun hi3 => ?_
      have ehi3 := inb_lt hi3
      refine fr_bp fun q4 => ?_
      refine fr_g (fr_wI hμ (by first | exact inw_n (by decide) | exact inw_s (by decide) | (simp [WX3_letAll, inW]; done) | (simp [WX3_letAll, inW]; omega)) fun μ5 hμ5 => ?_)
      exact ih (v3 + 1) μ5 hμ5
    · exact hK μ hμ
set_option maxRecDepth 100000 in
theorem frX3_letAll_26 (t1 : Nat)   (μ0 : Mem)  (K : Mem → Option (Mem)) (hK : ∀  (μ : Mem) (_ : Fr (WX3_letAll) μ0 μ), FrO (WX3_letAll) μ0 id (K μ)) : ∀ (n9 : Nat) (v2 : Int32) (μ : Mem) (_ : Fr (WX3_letAll) μ0 μ), FrO (WX3_letAll) μ0 id (fX3_letAll_26 t1 K n9 v2 μ) := by
  intro n9
  induction n9 with
  | zero => intros; exact fr_none
  | succ n ih =>
    intro v2 μ hμ
    unfold fX3_letAll_26
    refine fr_if ?_ ?_
    · refine frX3_letAll_36 t1 v2 μ0 _ (fun μ6 hμ6 => ?_) FU 0 μ hμ
      exact ih (v2 + 1) μ6 hμ6
    · exact hK μ hμ
set_option maxRecDepth 100000 in
theorem frX3_letAll  (t1 : Nat) (μ : Mem) : FrO (WX3_letAll) μ id (fX3_letAll t1 μ) := by
  suffices hh : ∀ μ0 : Mem, Fr (WX3_letAll) μ0 μ → FrO (WX3_letAll) μ0 id (fX3_letAll t1 μ) from hh μ Fr.rfl
  intro μ0 hμ
  unfold fX3_letAll
  refine frX3_letAll_2 t1 μ0 _ (fun μ2 hμ2 => ?_) FU 0 μ hμ
  refine frX3_letAll_26 t1 μ0 _ (fun μ7 hμ7 => ?_) FU 0 μ2 hμ2
  exact fr_ret hμ7
def WX10_letting : List (Nat × Nat × Option Nat) := [(181, 1, none), (182, 1, none), (195, 1, none), (185, 10, none)]
set_option maxRecDepth 100000 in
theorem frX10_letting_17   (v1 : Int32) (μ0 : Mem)  (K : Mem → Option (Int32 × Mem)) (hK : ∀  (μ : Mem) (_ : Fr (WX10_letting) μ0 μ), FrO (WX10_letting) μ0 Prod.snd (K μ)) : ∀ (n9 : Nat) (v2 : Int32) (μ : Mem) (_ : Fr (WX10_letting) μ0 μ), FrO (WX10_letting) μ0 Prod.snd (fX10_letting_17 v1 K n9 v2 μ) := by
  intro n9
  induction n9 with
  | zero => intros; exact fr_none
  | succ n ih =>
    intro v2 μ hμ
    unfold fX10_letting_17
    refine fr_if ?_ ?_
    · refine fr_bv (frX3_valueSets 199 9 v2 μ) hμ (by first | exact sub_mem (by decide) | (refine sub_mem ?_; simp [WX3_valueSets, WX10_letting]; done) | (intro a9 j9 h9; simp [WX3_valueSets, inW] at h9; simp [WX10_letting, inW]; omega)) fun q1 hq1 => ?_
      exact ih (v2 + 1) q1 hq1
    · exact hK μ hμ
set_option maxRecDepth 100000 in
theorem frX10_letting  (a1 : Int32) (μ : Mem) : FrO (WX10_letting) μ Prod.snd (fX10_letting a1 μ) := by
  suffices hh : ∀ μ0 : Mem, Fr (WX10_letting) μ0 μ → FrO (WX10_letting) μ0 Prod.snd (fX10_letting a1 μ) from hh μ Fr.rfl
  intro μ0 hμ
  unfold fX10_letting
  refine fr_if ?_ ?_
  · refine frX10_letting_17 a1 μ0 _ (fun μ2 hμ2 => ?_) FU 0 μ hμ
    refine fr_bv (frX3_letAll 199 μ2) hμ2 (by first | exact sub_mem (by decide) | (refine sub_mem ?_; simp [WX3_letAll, WX10_letting]; done) | (intro a9 j9 h9; simp [WX3_letAll, inW] at h9; simp [WX10_letting, inW]; omega)) fun q3 hq3 => ?_
    refine fr_bp fun q4 => ?_
    refine fr_if ?_ ?_
    · refine fr_gh fun hi6 => ?_
      have ehi6 := inb_lt hi6
      refine fr_g ?_
      exact fr_ret hq3
    · refine fr_bp fun q5 => ?_
      exact fr_ret hq3
  · refine fr_bp fun q7 => ?_
    refine fr_if ?_ ?_
    · refine frX10_letting_17 a1 μ0 _ (fun μ8 hμ8 => ?_) FU 0 μ hμ
      refine fr_bv (frX3_letAll 199 μ8) hμ8 (by first | exact sub_mem (by decide) | (refine sub_mem ?_; simp [WX3_letAll, WX10_letting]; done) | (intro a9 j9 h9; simp [WX3_letAll, inW] at h9; simp [WX10_letting, inW]; omega)) fun q9 hq9 => ?_
      refine fr_bp fun q10 => ?_
      refine fr_if ?_ ?_
      · refine fr_gh fun hi12 => ?_
        have ehi12 := inb_lt hi12
        refine fr_g ?_
        exact fr_ret hq9
      · refine fr_bp fun q11 => ?_
        exact fr_ret hq9
    · exact fr_ret hμ
def WX3_leastCost : List (Nat × Nat × Option Nat) := [(185, 10, none)]
set_option maxRecDepth 100000 in
theorem frX3_leastCost_2 (t1 : Nat) (t2 : Nat)   (μ0 : Mem)  (K : Mem → Option (Int32 × Mem)) (hK : ∀  (μ : Mem) (_ : Fr (WX3_leastCost) μ0 μ), FrO (WX3_leastCost) μ0 Prod.snd (K μ)) : ∀ (n9 : Nat) (v3 : Int32) (μ : Mem) (_ : Fr (WX3_leastCost) μ0 μ), FrO (WX3_leastCost) μ0 Prod.snd (fX3_leastCost_2 t1 t2 K n9 v3 μ) := by
  intro n9
  induction n9 with
  | zero => intros; exact fr_none
  | succ n ih =>
    intro v3 μ hμ
    unfold fX3_leastCost_2
    refine fr_if ?_ ?_
    · refine fr_if ?_ ?_
      · refine fr_g (fr_wI hμ (inw_n (by decide)) fun μ2 hμ2 => ?_)
        exact ih (v3 + 1) μ2 hμ2
      · refine fr_g (fr_wI hμ (inw_n (by decide)) fun μ1 hμ1 => ?_)
        exact ih (v3 + 1) μ1 hμ1
    · exact hK μ hμ
set_option maxRecDepth 100000 in
theorem frX3_leastCost_54 (t1 : Nat) (t2 : Nat)  (v3 : Int32) (v4 : Int32) (μ0 : Mem)  (K : Mem → Option (Int32 × Mem)) (hK : ∀  (μ : Mem) (_ : Fr (WX3_leastCost) μ0 μ), FrO (WX3_leastCost) μ0 Prod.snd (K μ)) : ∀ (n9 : Nat) (v5 : Int32) (μ : Mem) (_ : Fr (WX3_leastCost) μ0 μ), FrO (WX3_leastCost) μ0 Prod.snd (fX3_leastCost_54 t1 t2 v3 v4 K n9 v5 μ) := by
  intro n9
  induction n9 with
  | zero => intros; exact fr_none
  | succ n ih =>
    intro v5 μ hμ
    unfold fX3_leastCost_54
    refine fr_if ?_ ?_
    · refine fr_gh fun hi5 => ?_
      have ehi5 := inb_lt hi5
      refine fr_bp fun q6 => ?_
      refine fr_g (fr_wI hμ (by first | exact inw_n (by decide) | exact inw_s (by decide) | (simp [WX3_leastCost, inW]; done) | (simp [WX3_leastCost, inW]; omega)) fun μ7 hμ7 => ?_)
      exact ih (v5 + 1) μ7 hμ7
    · exact hK μ hμ
set_option maxRecDepth 100000 in
theorem frX3_leastCost_35 (t1 : Nat) (t2 : Nat)   (μ0 : Mem)  (K : Mem → Option (Int32 × Mem)) (hK : ∀  (μ : Mem) (_ : Fr (WX3_leastCost) μ0 μ), FrO (WX3_leastCost) μ0 Prod.snd (K μ)) : ∀ (n9 : Nat) (v3 : Int32) (μ : Mem) (_ : Fr (WX3_leastCost) μ0 μ), FrO (WX3_leastCost) μ0 Prod.snd (fX3_leastCost_35 t1 t2 K n9 v3 μ) := by
  intro n9
  induction n9 with
  | zero => intros; exact fr_none
  | succ n ih =>
    intro v3 μ hμ
    unfold fX3_leastCost_35
    refine fr_if ?_ ?_
    · refine fr_bp fun q4 => ?_
      refine frX3_leastCost_54 t1 t2 v3 q4 μ0 _ (fun μ8 hμ8 => ?_) FU 0 μ hμ
      exact ih (v3 + 1) μ8 hμ8
    · exact hK μ hμ
set_option maxRecDepth 100000 in
theorem frX3_leastCost  (t1 : Nat) (t2 : Nat) (μ : Mem) : FrO (WX3_leastCost) μ Prod.snd (fX3_leastCost t1 t2 μ) := by
  suffices hh : ∀ μ0 : Mem, Fr (WX3_leastCost) μ0 μ → FrO (WX3_leastCost) μ0 Prod.snd (fX3_leastCost t1 t2 μ) from hh μ Fr.rfl
  intro μ0 hμ
  unfold fX3_leastCost
  refine frX3_leastCost_2 t1 t2 μ0 _ (fun μ3 hμ3 => ?_) FU 0 μ hμ
  refine frX3_leastCost_35 t1 t2 μ0 _ (fun μ9 hμ9 => ?_) FU 0 μ3 hμ3
  refine fr_gh fun hi10 => ?_
  have ehi10 := inb_lt hi10
  refine fr_bp fun q11 => ?_
  refine fr_g ?_
  exact fr_ret hμ9
def WX10_fewest : List (Nat × Nat × Option Nat) := [(185, 10, none)]
set_option maxRecDepth 100000 in
theorem frX10_fewest  (a1 : Int32) (μ : Mem) : FrO (WX10_fewest) μ Prod.snd (fX10_fewest a1 μ) := by
  suffices hh : ∀ μ0 : Mem, Fr (WX10_fewest) μ0 μ → FrO (WX10_fewest) μ0 Prod.snd (fX10_fewest a1 μ) from hh μ Fr.rfl
  intro μ0 hμ
  unfold fX10_fewest
  refine fr_bp fun q1 => ?_
  refine fr_if ?_ ?_
  · refine fr_bm (frX3_leastCost 199 9 μ) hμ (by first | exact sub_mem (by decide) | (refine sub_mem ?_; simp [WX3_leastCost, WX10_fewest]; done) | (intro a9 j9 h9; simp [WX3_leastCost, inW] at h9; simp [WX10_fewest, inW]; omega)) fun q2 hq2 => ?_
    refine fr_if ?_ ?_
    · refine fr_if ?_ ?_
      · exact fr_ret hq2
      · exact fr_ret hq2
    · exact fr_ret hq2
  · exact fr_ret hμ
def WX3_fewestColours : List (Nat × Nat × Option Nat) := [(185, 10, none)]
set_option maxRecDepth 100000 in
theorem frX3_fewestColours_30 (t1 : Nat)  (v2 : Int32) (v4 : Int32) (μ0 : Mem)  (K : Mem → Option (Int32 × Mem)) (hK : ∀  (μ : Mem) (_ : Fr (WX3_fewestColours) μ0 μ), FrO (WX3_fewestColours) μ0 Prod.snd (K μ)) : ∀ (n9 : Nat) (v5 : Int32) (μ : Mem) (_ : Fr (WX3_fewestColours) μ0 μ), FrO (WX3_fewestColours) μ0 Prod.snd (fX3_fewestColours_30 t1 v2 v4 K n9 v5 μ) := by
  intro n9
  induction n9 with
  | zero => intros; exact fr_none
  | succ n ih =>
    intro v5 μ hμ
    unfold fX3_fewestColours_30
    refine fr_if ?_ ?_
    · refine fr_g ?_
      refine fr_if ?_ ?_
      · refine fr_nmv fun x3 => ?_
        exact ih x3 μ hμ
      · refine fr_g ?_
        refine fr_g ?_
        refine fr_g (fr_wI hμ (inw_n (by decide)) fun μ4 hμ4 => ?_)
        refine fr_nmv fun x5 => ?_
        exact ih x5 μ4 hμ4
    · exact hK μ hμ
set_option maxRecDepth 100000 in
theorem frX3_fewestColours_14 (t1 : Nat)  (v2 : Int32) (μ0 : Mem)  (K : Mem → Option (Int32 × Mem)) (hK : ∀  (μ : Mem) (_ : Fr (WX3_fewestColours) μ0 μ), FrO (WX3_fewestColours) μ0 Prod.snd (K μ)) : ∀ (n9 : Nat) (v4 : Int32) (μ : Mem) (_ : Fr (WX3_fewestColours) μ0 μ), FrO (WX3_fewestColours) μ0 Prod.snd (fX3_fewestColours_14 t1 v2 K n9 v4 μ) := by
  intro n9
  induction n9 with
  | zero => intros; exact fr_none
  | succ n ih =>
    intro v4 μ hμ
    unfold fX3_fewestColours_14
    refine fr_if ?_ ?_
    · exact hK μ hμ
    · refine fr_g (fr_wI hμ (inw_n (by decide)) fun μ2 hμ2 => ?_)
      refine frX3_fewestColours_30 t1 v2 v4 μ0 _ (fun μ6 hμ6 => ?_) FU v4 μ2 hμ2
      exact ih (v4 + 1) μ6 hμ6
set_option maxRecDepth 100000 in
theorem frX3_fewestColours  (t1 : Nat) (a2 : Int32) (μ : Mem) : FrO (WX3_fewestColours) μ Prod.snd (fX3_fewestColours t1 a2 μ) := by
  suffices hh : ∀ μ0 : Mem, Fr (WX3_fewestColours) μ0 μ → FrO (WX3_fewestColours) μ0 Prod.snd (fX3_fewestColours t1 a2 μ) from hh μ Fr.rfl
  intro μ0 hμ
  unfold fX3_fewestColours
  refine fr_wI hμ (inw_n (by decide)) fun μ1 hμ1 => ?_
  refine frX3_fewestColours_14 t1 a2 μ0 _ (fun μ7 hμ7 => ?_) FU 1 μ1 hμ1
  refine fr_g ?_
  exact fr_ret hμ7
def WX10_colours : List (Nat × Nat × Option Nat) := [(185, 10, none)]
set_option maxRecDepth 100000 in
theorem frX10_colours   (μ : Mem) : FrO (WX10_colours) μ Prod.snd (fX10_colours  μ) := by
  suffices hh : ∀ μ0 : Mem, Fr (WX10_colours) μ0 μ → FrO (WX10_colours) μ0 Prod.snd (fX10_colours  μ) from hh μ Fr.rfl
  intro μ0 hμ
  unfold fX10_colours
  refine fr_bp fun q1 => ?_
  refine fr_bm (frX3_fewestColours 199 q1 μ) hμ (by first | exact sub_mem (by decide) | (refine sub_mem ?_; simp [WX3_fewestColours, WX10_colours]; done) | (intro a9 j9 h9; simp [WX3_fewestColours, inW] at h9; simp [WX10_colours, inW]; omega)) fun q2 hq2 => ?_
  exact fr_ret hq2
def WX10_payer : List (Nat × Nat × Option Nat) := [(181, 1, none), (182, 1, none)]
set_option maxRecDepth 100000 in
theorem frX10_payer_19   (v1 : Int32) (μ0 : Mem)  (K : Int32 → Int32 → Mem → Option (Int32 × Mem)) (hK : ∀ (v2 : Int32) (v3 : Int32) (μ : Mem) (_ : Fr (WX10_payer) μ0 μ), FrO (WX10_payer) μ0 Prod.snd (K v2 v3 μ)) : ∀ (n9 : Nat) (v2 : Int32) (v3 : Int32) (v4 : Int32) (μ : Mem) (_ : Fr (WX10_payer) μ0 μ), FrO (WX10_payer) μ0 Prod.snd (fX10_payer_19 v1 K n9 v2 v3 v4 μ) := by
  intro n9
  induction n9 with
  | zero => intros; exact fr_none
  | succ n ih =>
    intro v2 v3 v4 μ hμ
    unfold fX10_payer_19
    refine fr_if ?_ ?_
    · refine fr_bp fun q2 => ?_
      refine fr_if ?_ ?_
      · exact ih v2 v3 (v4 + 1) μ hμ
      · refine fr_bm (frX1_ofGuestNow 0 199 9 v4 μ) hμ (by first | exact sub_mem (by decide) | (refine sub_mem ?_; simp [WX1_ofGuestNow, WX10_payer]; done) | (intro a9 j9 h9; simp [WX1_ofGuestNow, inW] at h9; simp [WX10_payer, inW]; omega)) fun q3 hq3 => ?_
        refine fr_if ?_ ?_
        · exact ih v4 q3.1 (v4 + 1) q3.2 hq3
        · exact ih v2 v3 (v4 + 1) q3.2 hq3
    · exact hK v2 v3 μ hμ
set_option maxRecDepth 100000 in
theorem frX10_payer  (a1 : Int32) (μ : Mem) : FrO (WX10_payer) μ Prod.snd (fX10_payer a1 μ) := by
  suffices hh : ∀ μ0 : Mem, Fr (WX10_payer) μ0 μ → FrO (WX10_payer) μ0 Prod.snd (fX10_payer a1 μ) from hh μ Fr.rfl
  intro μ0 hμ
  unfold fX10_payer
  refine fr_bp fun q1 => ?_
  refine fr_if ?_ ?_
  · refine frX10_payer_19 a1 μ0 _ (fun y4 y5 μ6 hμ6 => ?_) FU (-2) (-2) 0 μ hμ
    refine fr_if ?_ ?_
    · exact fr_ret hμ6
    · exact fr_ret hμ6
  · exact fr_ret hμ
def WX1_passWeek (t1 : Nat) (t2 : Nat) : List (Nat × Nat × Option Nat) := [(181, 1, none), (182, 1, none), (t2, 1, some 1), ((t2 + 3), 1, none), ((t2 + 2), 1, none), (t2, 1, some 0)]
set_option maxRecDepth 100000 in
theorem frX1_passWeek  (t1 : Nat) (t2 : Nat) (μ : Mem) : FrO (WX1_passWeek t1 t2) μ id (fX1_passWeek t1 t2 μ) := by
  suffices hh : ∀ μ0 : Mem, Fr (WX1_passWeek t1 t2) μ0 μ → FrO (WX1_passWeek t1 t2) μ0 id (fX1_passWeek t1 t2 μ) from hh μ Fr.rfl
  intro μ0 hμ
  unfold fX1_passWeek
  refine fr_bv (frX1_payAndRest t1 t2 μ) hμ (by first | exact sub_mem (by decide) | (refine sub_mem ?_; simp [WX1_payAndRest, WX1_passWeek]; done) | (intro a9 j9 h9; simp [WX1_payAndRest, inW] at h9; simp [WX1_passWeek, inW]; omega)) fun q1 hq1 => ?_
  refine fr_bv (frX1_wear t1 t2 q1) hq1 (by first | exact sub_mem (by decide) | (refine sub_mem ?_; simp [WX1_wear, WX1_passWeek]; done) | (intro a9 j9 h9; simp [WX1_wear, inW] at h9; simp [WX1_passWeek, inW]; omega)) fun q2 hq2 => ?_
  refine fr_wI hq2 (by first | exact inw_n (by decide) | exact inw_s (by decide) | (simp [WX1_passWeek, inW]; done) | (simp [WX1_passWeek, inW]; omega)) fun μ3 hμ3 => ?_
  exact fr_ret hμ3
def WX10_used : List (Nat × Nat × Option Nat) := [(13, 1, some 0), (13, 1, some 1), (13, 1, some 2), (13, 1, some 3), (14, 1, none), (15, 1, none), (16, 1, none), (181, 1, none), (182, 1, none)]
set_option maxRecDepth 100000 in
theorem frX10_used_34   (v1 : Int32) (v2 : Int32) (μ0 : Mem)  (K : Mem → Option (Int32 × Mem)) (hK : ∀  (μ : Mem) (_ : Fr (WX10_used) μ0 μ), FrO (WX10_used) μ0 Prod.snd (K μ)) : ∀ (n9 : Nat) (v3 : Int32) (μ : Mem) (_ : Fr (WX10_used) μ0 μ), FrO (WX10_used) μ0 Prod.snd (fX10_used_34 v1 v2 K n9 v3 μ) := by
  intro n9
  induction n9 with
  | zero => intros; exact fr_none
  | succ n ih =>
    intro v3 μ hμ
    unfold fX10_used_34
    refine fr_if ?_ ?_
    · exact hK μ hμ
    · refine fr_g ?_
      refine fr_if ?_ ?_
      · refine fr_bv (frX1_passWeek 199 13 μ) hμ (by first | exact sub_mem (by decide) | (refine sub_mem ?_; simp [WX1_passWeek, WX10_used]; done) | (intro a9 j9 h9; simp [WX1_passWeek, inW] at h9; simp [WX10_used, inW]; omega)) fun q3 hq3 => ?_
        exact ih (v3 + 1) q3 hq3
      · exact fr_ret hμ
set_option maxRecDepth 100000 in
theorem frX10_used  (a1 : Int32) (a2 : Int32) (μ : Mem) : FrO (WX10_used) μ Prod.snd (fX10_used a1 a2 μ) := by
  suffices hh : ∀ μ0 : Mem, Fr (WX10_used) μ0 μ → FrO (WX10_used) μ0 Prod.snd (fX10_used a1 a2 μ) from hh μ Fr.rfl
  intro μ0 hμ
  unfold fX10_used
  refine fr_bp fun q1 => ?_
  refine fr_if ?_ ?_
  · refine fr_if ?_ ?_
    · exact fr_ret hμ
    · refine fr_if ?_ ?_
      · exact fr_ret hμ
      · refine fr_bv (frX5_copyFrom 13 9 μ) hμ (by first | exact sub_mem (by decide) | (refine sub_mem ?_; simp [WX5_copyFrom, WX10_used]; done) | (intro a9 j9 h9; simp [WX5_copyFrom, inW] at h9; simp [WX10_used, inW]; omega)) fun q2 hq2 => ?_
        refine frX10_used_34 a1 a2 μ0 _ (fun μ4 hμ4 => ?_) FU 0 q2 hq2
        exact fr_ret hμ4
  · exact fr_ret hμ
