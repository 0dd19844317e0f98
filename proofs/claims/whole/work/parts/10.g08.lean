def fX10_hold (a1 : Int32) (μ : Mem) : Option (Bool × Mem) :=
  if a1 < 0 then
    some (false, μ)
  else
    if a1 < 3 then
      if inb a1 3 then
      (fX5_copyFrom (231 + 4 * a1.toNatClampNeg) 9 μ).bind fun q2 =>
      nm (wI q2 0 11 ((q2.1 0 11) ||| ((1 : Int32) <<< (a1 &&& 31)))) fun μ3 =>
      some (true, μ3)
      else none
    else
      some (false, μ)
set_option maxRecDepth 100000 in
theorem wX10_hold (a1 : Int32) (μ : Mem) {res : Bool × Mem} (h : fX10_hold a1 μ = some res) : Ct mX10_hold 2 NF NF [.ref 0, .int a1] (μ, Rf0, NF) (QN (some (.int (b2i res.1))) res.2 Rf0 NF) := by
  unfold fX10_hold at h
  show RW mX10_hold 2 NF NF 0 [(0, .ref 0), (1, .int a1)] [] (μ, Rf0, NF) (QN (some (.int (b2i res.1))) res.2 Rf0 NF)
  refine rw_iload_n 0 dX10_hold_0 1 rfl ?_
  refine rn_if_lt 1 9 dX10_hold_1 (by decide) h (fun _ h => ?_) (fun _ h => ?_)
  · refine rw_iconst 9 (v := 0) dX10_hold_9 (by decide) ?_
    exact rn_zret2 10 (v := false) dX10_hold_10 rfl h
  · refine rw_iload_n 4 dX10_hold_4 1 rfl ?_
    refine rw_iconst 5 (v := 3) dX10_hold_5 (by decide) ?_
    refine rn_icmp_lt 6 11 dX10_hold_6 (by decide) h (fun _ h => ?_) (fun _ h => ?_)
    · refine rw_aload_n 11 dX10_hold_11 0 rfl ?_
      refine rw_getR 12 10 5 kc10 dX10_hold_12 ly_0 rln_0 fX10_40 rfl rf_0_5 ?_
      refine rw_iload_n 15 dX10_hold_15 1 rfl ?_
      refine rn_aald 16 4 (by decide) dX10_hold_16 ly_179 rln_179 h (fun hi1 => (rfr_179 _ (inb_lt hi1))) (fun hi1 h => ?_)
      refine rw_aload_n 17 dX10_hold_17 0 rfl ?_
      refine rw_getR 18 10 2 kc10 dX10_hold_18 ly_0 rln_0 fX10_26 rfl rf_0_2 ?_
      refine rn_cVmv 21 5 [.ref 9] dX10_hold_21 caX5_copyFrom lX10_258 inX5_copyFrom slX5_copyFrom rfl (o5l (okr_179 _ (inb_lt hi1))) ⟨_, rfl, rfl⟩ (o5n (okr_179 _ (inb_lt hi1))) naX5_copyFrom (Nat.le_of_ble_eq_true rfl) (Nat.le_of_ble_eq_true rfl) (by decide) (fun _ hq => wX5_copyFrom (231 + 4 * a1.toNatClampNeg) (okr_179 _ (inb_lt hi1)) 9 okX5_9 μ hq) h (fun q2 h => ?_)
      refine rw_aload_n 24 dX10_hold_24 0 rfl ?_
      refine rw_dup 25 dX10_hold_25 rfl ?_
      refine rw_getI 26 10 11 kc10 dX10_hold_26 ly_0 rln_0 fX10_75 rfl ?_
      refine rw_iconst 29 (v := 1) dX10_hold_29 (by decide) ?_
      refine rw_iload_n 30 dX10_hold_30 1 rfl ?_
      refine rw_ishl 31 dX10_hold_31 ?_
      refine rw_ior 32 dX10_hold_32 ?_
      refine rn_putI 33 10 11 kc10 dX10_hold_33 ly_0 rln_0 fX10_75 (fun q hq => by cases hq; rfl) rfl rfl rfl h (fun μ3 h => ?_)
      refine rw_iconst 36 (v := 1) dX10_hold_36 (by decide) ?_
      exact rn_zret2 37 (v := true) dX10_hold_37 rfl h
    · refine rw_iconst 9 (v := 0) dX10_hold_9 (by decide) ?_
      exact rn_zret2 10 (v := false) dX10_hold_10 rfl h
def fX10_restore (a1 : Int32) (μ : Mem) : Option (Bool × Mem) :=
  if a1 < 0 then
    some (false, μ)
  else
    if a1 < 3 then
      if (((μ.1 0 11) >>> (a1 &&& 31)) &&& 1) = 0 then
        some (false, μ)
      else
        if inb a1 3 then
        (fX5_copyFrom 9 (231 + 4 * a1.toNatClampNeg) μ).bind fun q2 =>
        nm (wI q2 17 0 0) fun μ3 =>
        some (true, μ3)
        else none
    else
      some (false, μ)
set_option maxRecDepth 100000 in
theorem wX10_restore (a1 : Int32) (μ : Mem) {res : Bool × Mem} (h : fX10_restore a1 μ = some res) : Ct mX10_restore 2 NF NF [.ref 0, .int a1] (μ, Rf0, NF) (QN (some (.int (b2i res.1))) res.2 Rf0 NF) := by
  unfold fX10_restore at h
  show RW mX10_restore 2 NF NF 0 [(0, .ref 0), (1, .int a1)] [] (μ, Rf0, NF) (QN (some (.int (b2i res.1))) res.2 Rf0 NF)
  refine rw_iload_n 0 dX10_restore_0 1 rfl ?_
  refine rn_if_lt 1 20 dX10_restore_1 (by decide) h (fun _ h => ?_) (fun _ h => ?_)
  · refine rw_iconst 20 (v := 0) dX10_restore_20 (by decide) ?_
    exact rn_zret2 21 (v := false) dX10_restore_21 rfl h
  · refine rw_iload_n 4 dX10_restore_4 1 rfl ?_
    refine rw_iconst 5 (v := 3) dX10_restore_5 (by decide) ?_
    refine rn_icmp_ge 6 20 dX10_restore_6 (by decide) h (fun _ h => ?_) (fun _ h => ?_)
    · refine rw_iconst 20 (v := 0) dX10_restore_20 (by decide) ?_
      exact rn_zret2 21 (v := false) dX10_restore_21 rfl h
    · refine rw_aload_n 9 dX10_restore_9 0 rfl ?_
      refine rw_getI 10 10 11 kc10 dX10_restore_10 ly_0 rln_0 fX10_75 rfl ?_
      refine rw_iload_n 13 dX10_restore_13 1 rfl ?_
      refine rw_ishr 14 dX10_restore_14 ?_
      refine rw_iconst 15 (v := 1) dX10_restore_15 (by decide) ?_
      refine rw_iand 16 dX10_restore_16 ?_
      refine rn_if_ne 17 22 dX10_restore_17 (by decide) h (fun _ h => ?_) (fun _ h => ?_)
      · refine rw_aload_n 22 dX10_restore_22 0 rfl ?_
        refine rw_getR 23 10 2 kc10 dX10_restore_23 ly_0 rln_0 fX10_26 rfl rf_0_2 ?_
        refine rw_aload_n 26 dX10_restore_26 0 rfl ?_
        refine rw_getR 27 10 5 kc10 dX10_restore_27 ly_0 rln_0 fX10_40 rfl rf_0_5 ?_
        refine rw_iload_n 30 dX10_restore_30 1 rfl ?_
        refine rn_aald 31 4 (by decide) dX10_restore_31 ly_179 rln_179 h (fun hi1 => (rfr_179 _ (inb_lt hi1))) (fun hi1 h => ?_)
        refine rn_cVmv 32 5 [.ref (231 + 4 * a1.toNatClampNeg)] dX10_restore_32 caX5_copyFrom lX10_258 inX5_copyFrom slX5_copyFrom rfl ly_9 ⟨_, rfl, rfl⟩ rln_9 naX5_copyFrom (Nat.le_of_ble_eq_true rfl) (Nat.le_of_ble_eq_true rfl) (by decide) (fun _ hq => wX5_copyFrom 9 okX5_9 (231 + 4 * a1.toNatClampNeg) (okr_179 _ (inb_lt hi1)) μ hq) h (fun q2 h => ?_)
        refine rw_aload_n 35 dX10_restore_35 0 rfl ?_
        refine rw_getR 36 10 4 kc10 dX10_restore_36 ly_0 rln_0 fX10_36 rfl rf_0_4 ?_
        refine rw_iconst 39 (v := 0) dX10_restore_39 (by decide) ?_
        refine rn_putI 40 9 0 kc9 dX10_restore_40 ly_17 rln_17 fX10_100 (fun q hq => by cases hq; rfl) rfl rfl rfl h (fun μ3 h => ?_)
        refine rw_iconst 43 (v := 1) dX10_restore_43 (by decide) ?_
        exact rn_zret2 44 (v := true) dX10_restore_44 rfl h
      · refine rw_iconst 20 (v := 0) dX10_restore_20 (by decide) ?_
        exact rn_zret2 21 (v := false) dX10_restore_21 rfl h
def fX5_allIn_4 (t0 : Nat)   (μ : Mem) (K : Int32 → Option (Int32)) : Nat → Int32 → Int32 → Option (Int32)
  | 0, _, _ => none
  | n + 1, v1, v2 =>
    if v2 < 4 then
      if inb v2 4 then
      nm (v1 ||| (μ.1 (t0 + 1) v2.toNatClampNeg)) fun x1 =>
      fX5_allIn_4 t0 μ K n x1 (v2 + 1)
      else none
    else
      K v1
def fX5_allIn (t0 : Nat) (μ : Mem) : Option (Int32) :=
  fX5_allIn_4 t0 μ (fun y2 =>
      some y2
  ) FU 0 0
set_option maxRecDepth 100000 in
theorem wX5_allIn_4 (t0 : Nat) (ht0 : okX5 Rf0 NF t0)   (μ : Mem) (K : Int32 → Option (Int32)) {res : Int32} (hK : ∀ (v1 : Int32), K v1 = some res → RW mX5_allIn 1 NF NF 24 [(1, .int v1)] [] (μ, Rf0, NF) (QN (some (.int res)) μ Rf0 NF)) : ∀ (n9 : Nat) (v1 : Int32) (v2 : Int32), fX5_allIn_4 t0 μ K n9 v1 v2 = some res → RW mX5_allIn 1 NF NF 4 [(0, .ref t0), (1, .int v1), (2, .int v2)] [] (μ, Rf0, NF) (QN (some (.int res)) μ Rf0 NF) := by
  intro n9
  induction n9 with
  | zero => intro _ _ h; cases h
  | succ n ih =>
    intro v1 v2 h
    unfold fX5_allIn_4 at h
    refine rw_iload_n 4 dX5_allIn_4 2 rfl ?_
    refine rw_iconst 5 (v := 4) dX5_allIn_5 (by decide) ?_
    refine rn_icmp_ge 6 24 dX5_allIn_6 (by decide) h (fun _ h => ?_) (fun _ h => ?_)
    · refine rw_pick 24 [1] rfl ?_
      exact hK v1 h
    · refine rw_iload_n 9 dX5_allIn_9 1 rfl ?_
      refine rw_aload_n 10 dX5_allIn_10 0 rfl ?_
      refine rw_getR 11 5 4 kc5 dX5_allIn_11 (o5l ht0) (o5n ht0) fX5_24 rfl (o5r4 ht0) ?_
      refine rw_iload_n 14 dX5_allIn_14 2 rfl ?_
      refine rn_iald 15 dX5_allIn_15 (o5l4 ht0) (o5n4 ht0) h (fun h => ?_)
      refine rw_ior 16 dX5_allIn_16 ?_
      refine rn_ist_n 17 (fun x1 => [(0, .ref t0), (1, .int x1), (2, .int v2)]) dX5_allIn_17 (by decide) (fun _ => rfl) h (fun x1 h => ?_)
      refine rw_iinc 18 [(0, .ref t0), (1, .int x1), (2, .int (v2 + 1))] dX5_allIn_18 2 rfl rfl (by decide) rfl ?_
      refine rw_goto 21 4 dX5_allIn_21 (by decide) ?_
      exact ih x1 (v2 + 1) h
set_option maxRecDepth 100000 in
theorem wX5_allIn (t0 : Nat) (ht0 : okX5 Rf0 NF t0) (μ : Mem) {res : Int32} (h : fX5_allIn t0 μ = some res) : Ct mX5_allIn 1 NF NF [.ref t0] (μ, Rf0, NF) (QN (some (.int res)) μ Rf0 NF) := by
  unfold fX5_allIn at h
  show RW mX5_allIn 1 NF NF 0 [(0, .ref t0)] [] (μ, Rf0, NF) (QN (some (.int res)) μ Rf0 NF)
  refine rw_iconst 0 (v := 0) dX5_allIn_0 (by decide) ?_
  refine rw_istore_n 1 [(0, .ref t0), (1, .int 0)] dX5_allIn_1 (by decide) rfl ?_
  refine rw_iconst 2 (v := 0) dX5_allIn_2 (by decide) ?_
  refine rw_istore_n 3 [(0, .ref t0), (1, .int 0), (2, .int 0)] dX5_allIn_3 (by decide) rfl ?_
  refine wX5_allIn_4 t0 ht0 μ _ (fun y2 h => ?_) FU 0 0 h
  refine rw_iload_n 24 dX5_allIn_24 0 rfl ?_
  exact rn_iret 25 dX5_allIn_25 rfl h
def fX10_moneyDue_4     (K : Int32 → Mem → Option (Int32 × Mem)) : Nat → Int32 → Int32 → Mem → Option (Int32 × Mem)
  | 0, _, _, _ => none
  | n + 1, v1, v2, μ =>
    if v2 < (μ.1 199 3) then
      (fX1_ofGuestNow 0 199 9 v2 μ).bind fun q1 =>
      fX10_moneyDue_4 K n (v1 + q1.1) (v2 + 1) q1.2
    else
      K v1 μ
def fX10_moneyDue  (μ : Mem) : Option (Int32 × Mem) :=
  fX10_moneyDue_4  (fun y2 μ3 =>
      some (y2, μ3)
  ) FU 0 0 μ
set_option maxRecDepth 100000 in
theorem wX10_moneyDue_4     (K : Int32 → Mem → Option (Int32 × Mem)) {res : Int32 × Mem} (hK : ∀ (v1 : Int32) (μ : Mem), K v1 μ = some res → RW mX10_moneyDue 6 NF NF 41 [(1, .int v1)] [] (μ, Rf0, NF) (QN (some (.int res.1)) res.2 Rf0 NF)) : ∀ (n9 : Nat) (v1 : Int32) (v2 : Int32) (μ : Mem), fX10_moneyDue_4 K n9 v1 v2 μ = some res → RW mX10_moneyDue 6 NF NF 4 [(0, .ref 0), (1, .int v1), (2, .int v2)] [] (μ, Rf0, NF) (QN (some (.int res.1)) res.2 Rf0 NF) := by
  intro n9
  induction n9 with
  | zero => intro _ _ _ h; cases h
  | succ n ih =>
    intro v1 v2 μ h
    unfold fX10_moneyDue_4 at h
    refine rw_iload_n 4 dX10_moneyDue_4 2 rfl ?_
    refine rw_aload_n 5 dX10_moneyDue_5 0 rfl ?_
    refine rw_getR 6 10 9 kc10 dX10_moneyDue_6 ly_0 rln_0 fX10_68 rfl rf_0_9 ?_
    refine rw_getI 9 7 3 kc7 dX10_moneyDue_9 ly_199 rln_199 fX10_155 rfl ?_
    refine rn_icmp_ge 12 41 dX10_moneyDue_12 (by decide) h (fun _ h => ?_) (fun _ h => ?_)
    · refine rw_pick 41 [1] rfl ?_
      exact hK v1 μ h
    · refine rw_iload_n 15 dX10_moneyDue_15 1 rfl ?_
      refine rw_aload_n 16 dX10_moneyDue_16 0 rfl ?_
      refine rw_getR 17 10 6 kc10 dX10_moneyDue_17 ly_0 rln_0 fX10_47 rfl rf_0_6 ?_
      refine rw_iconst 20 (v := 0) dX10_moneyDue_20 (by decide) ?_
      refine rw_aload_n 21 dX10_moneyDue_21 0 rfl ?_
      refine rw_getR 22 10 9 kc10 dX10_moneyDue_22 ly_0 rln_0 fX10_68 rfl rf_0_9 ?_
      refine rw_aload_n 25 dX10_moneyDue_25 0 rfl ?_
      refine rw_getR 26 10 2 kc10 dX10_moneyDue_26 ly_0 rln_0 fX10_26 rfl rf_0_2 ?_
      refine rw_iload_n 29 dX10_moneyDue_29 2 rfl ?_
      refine rn_cVmi 30 1 [.int 0, .ref 199, .ref 9, .int v2] dX10_moneyDue_30 caX1_ofGuestNow lX10_152 inX1_ofGuestNow slX1_ofGuestNow rfl ly_180 ⟨_, rfl, rfl⟩ rln_180 naX1_ofGuestNow (Nat.le_of_ble_eq_true rfl) (Nat.le_of_ble_eq_true rfl) (by decide) (fun _ hq => wX1_ofGuestNow 0 199 okX7_199 9 okX5_9 v2 μ hq) h (fun q1 h => ?_)
      refine rw_iadd 33 dX10_moneyDue_33 ?_
      refine rw_istore_n 34 [(0, .ref 0), (1, .int (v1 + q1.1)), (2, .int v2)] dX10_moneyDue_34 (by decide) rfl ?_
      refine rw_iinc 35 [(0, .ref 0), (1, .int (v1 + q1.1)), (2, .int (v2 + 1))] dX10_moneyDue_35 2 rfl rfl (by decide) rfl ?_
      refine rw_goto 38 4 dX10_moneyDue_38 (by decide) ?_
      exact ih (v1 + q1.1) (v2 + 1) q1.2 h
set_option maxRecDepth 100000 in
theorem wX10_moneyDue  (μ : Mem) {res : Int32 × Mem} (h : fX10_moneyDue  μ = some res) : Ct mX10_moneyDue 6 NF NF [.ref 0] (μ, Rf0, NF) (QN (some (.int res.1)) res.2 Rf0 NF) := by
  unfold fX10_moneyDue at h
  show RW mX10_moneyDue 6 NF NF 0 [(0, .ref 0)] [] (μ, Rf0, NF) (QN (some (.int res.1)) res.2 Rf0 NF)
  refine rw_iconst 0 (v := 0) dX10_moneyDue_0 (by decide) ?_
  refine rw_istore_n 1 [(0, .ref 0), (1, .int 0)] dX10_moneyDue_1 (by decide) rfl ?_
  refine rw_iconst 2 (v := 0) dX10_moneyDue_2 (by decide) ?_
  refine rw_istore_n 3 [(0, .ref 0), (1, .int 0), (2, .int 0)] dX10_moneyDue_3 (by decide) rfl ?_
  refine wX10_moneyDue_4 _ (fun y2 μ3 h => ?_) FU 0 0 μ h
  refine rw_iload_n 41 dX10_moneyDue_41 0 rfl ?_
  exact rn_iret2 42 dX10_moneyDue_42 rfl h
def fX10_sumOf_4 (t1 lnt1 : Nat)   (μ : Mem) (K : Int32 → Option (Int32)) : Nat → Int32 → Int32 → Option (Int32)
  | 0, _, _ => none
  | n + 1, v2, v3 =>
    if v3 < (Int32.ofNat lnt1) then
      if inb v3 lnt1 then
      nm (v2 + (μ.1 t1 v3.toNatClampNeg)) fun x1 =>
      fX10_sumOf_4 t1 lnt1 μ K n x1 (v3 + 1)
      else none
    else
      K v2
def fX10_sumOf (t1 lnt1 : Nat) (μ : Mem) : Option (Int32) :=
  fX10_sumOf_4 t1 lnt1 μ (fun y2 =>
      some y2
  ) FU 0 0
set_option maxRecDepth 100000 in
theorem wX10_sumOf_4 (t1 lnt1 : Nat) (hlt1 : lay t1 = .inr (0, lnt1)) (hnt1 : t1 < NF)   (μ : Mem) (K : Int32 → Option (Int32)) {res : Int32} (hK : ∀ (v2 : Int32), K v2 = some res → RW mX10_sumOf 1 NF NF 22 [(2, .int v2)] [] (μ, Rf0, NF) (QN (some (.int res)) μ Rf0 NF)) : ∀ (n9 : Nat) (v2 : Int32) (v3 : Int32), fX10_sumOf_4 t1 lnt1 μ K n9 v2 v3 = some res → RW mX10_sumOf 1 NF NF 4 [(1, .ref t1), (2, .int v2), (3, .int v3)] [] (μ, Rf0, NF) (QN (some (.int res)) μ Rf0 NF) := by
  intro n9
  induction n9 with
  | zero => intro _ _ h; cases h
  | succ n ih =>
    intro v2 v3 h
    unfold fX10_sumOf_4 at h
    refine rw_iload_n 4 dX10_sumOf_4 2 rfl ?_
    refine rw_aload_n 5 dX10_sumOf_5 0 rfl ?_
    refine rw_alen 6 (by decide) dX10_sumOf_6 hlt1 hnt1 rfl ?_
    refine rn_icmp_ge 7 22 dX10_sumOf_7 (by decide) h (fun _ h => ?_) (fun _ h => ?_)
    · refine rw_pick 22 [1] rfl ?_
      exact hK v2 h
    · refine rw_iload_n 10 dX10_sumOf_10 1 rfl ?_
      refine rw_aload_n 11 dX10_sumOf_11 0 rfl ?_
      refine rw_iload_n 12 dX10_sumOf_12 2 rfl ?_
      refine rn_iald 13 dX10_sumOf_13 hlt1 hnt1 h (fun h => ?_)
      refine rw_iadd 14 dX10_sumOf_14 ?_
      refine rn_ist_n 15 (fun x1 => [(1, .ref t1), (2, .int x1), (3, .int v3)]) dX10_sumOf_15 (by decide) (fun _ => rfl) h (fun x1 h => ?_)
      refine rw_iinc 16 [(1, .ref t1), (2, .int x1), (3, .int (v3 + 1))] dX10_sumOf_16 2 rfl rfl (by decide) rfl ?_
      refine rw_goto 19 4 dX10_sumOf_19 (by decide) ?_
      exact ih x1 (v3 + 1) h
set_option maxRecDepth 100000 in
theorem wX10_sumOf (t1 lnt1 : Nat) (hlt1 : lay t1 = .inr (0, lnt1)) (hnt1 : t1 < NF) (μ : Mem) {res : Int32} (h : fX10_sumOf t1 lnt1 μ = some res) : Ct mX10_sumOf 1 NF NF [.ref 0, .ref t1] (μ, Rf0, NF) (QN (some (.int res)) μ Rf0 NF) := by
  unfold fX10_sumOf at h
  show RW mX10_sumOf 1 NF NF 0 [(0, .ref 0), (1, .ref t1)] [] (μ, Rf0, NF) (QN (some (.int res)) μ Rf0 NF)
  refine rw_iconst 0 (v := 0) dX10_sumOf_0 (by decide) ?_
  refine rw_istore_n 1 [(0, .ref 0), (1, .ref t1), (2, .int 0)] dX10_sumOf_1 (by decide) rfl ?_
  refine rw_iconst 2 (v := 0) dX10_sumOf_2 (by decide) ?_
  refine rw_istore_n 3 [(0, .ref 0), (1, .ref t1), (2, .int 0), (3, .int 0)] dX10_sumOf_3 (by decide) rfl ?_
  refine rw_pick 4 [1, 2, 3] rfl ?_
  refine wX10_sumOf_4 t1 lnt1 hlt1 hnt1 μ _ (fun y2 h => ?_) FU 0 0 h
  refine rw_iload_n 22 dX10_sumOf_22 0 rfl ?_
  exact rn_iret 23 dX10_sumOf_23 rfl h
def fX10_clashingPairs_4    (μ : Mem) (K : Int32 → Option (Int32)) : Nat → Int32 → Int32 → Option (Int32)
  | 0, _, _ => none
  | n + 1, v1, v2 =>
    if v2 < (μ.1 199 3) then
      if inb v2 7 then
      (fJ6_bitCount_0f7a4 (μ.1 209 v2.toNatClampNeg) μ).bind fun q1 =>
      fX10_clashingPairs_4 μ K n (v1 + q1) (v2 + 1)
      else none
    else
      K v1
def fX10_clashingPairs  (μ : Mem) : Option (Int32) :=
  fX10_clashingPairs_4 μ (fun y2 =>
      some (y2 / 2)
  ) FU 0 0
set_option maxRecDepth 100000 in
theorem wX10_clashingPairs_4    (μ : Mem) (K : Int32 → Option (Int32)) {res : Int32} (hK : ∀ (v1 : Int32), K v1 = some res → RW mX10_clashingPairs 2 NF NF 36 [(1, .int v1)] [] (μ, Rf0, NF) (QN (some (.int res)) μ Rf0 NF)) : ∀ (n9 : Nat) (v1 : Int32) (v2 : Int32), fX10_clashingPairs_4 μ K n9 v1 v2 = some res → RW mX10_clashingPairs 2 NF NF 4 [(0, .ref 0), (1, .int v1), (2, .int v2)] [] (μ, Rf0, NF) (QN (some (.int res)) μ Rf0 NF) := by
  intro n9
  induction n9 with
  | zero => intro _ _ h; cases h
  | succ n ih =>
    intro v1 v2 h
    unfold fX10_clashingPairs_4 at h
    refine rw_iload_n 4 dX10_clashingPairs_4 2 rfl ?_
    refine rw_aload_n 5 dX10_clashingPairs_5 0 rfl ?_
    refine rw_getR 6 10 9 kc10 dX10_clashingPairs_6 ly_0 rln_0 fX10_68 rfl rf_0_9 ?_
    refine rw_getI 9 7 3 kc7 dX10_clashingPairs_9 ly_199 rln_199 fX10_155 rfl ?_
    refine rn_icmp_ge 12 36 dX10_clashingPairs_12 (by decide) h (fun _ h => ?_) (fun _ h => ?_)
    · refine rw_pick 36 [1] rfl ?_
      exact hK v1 h
    · refine rw_iload_n 15 dX10_clashingPairs_15 1 rfl ?_
      refine rw_aload_n 16 dX10_clashingPairs_16 0 rfl ?_
      refine rw_getR 17 10 9 kc10 dX10_clashingPairs_17 ly_0 rln_0 fX10_68 rfl rf_0_9 ?_
      refine rw_getR 20 7 11 kc7 dX10_clashingPairs_20 ly_199 rln_199 fX10_276 rfl rf_199_11 ?_
      refine rw_iload_n 23 dX10_clashingPairs_23 2 rfl ?_
      refine rn_iald 24 dX10_clashingPairs_24 ly_209 rln_209 h (fun h => ?_)
      refine rn_cSpi 25 [.int (μ.1 209 v2.toNatClampNeg)] dX10_clashingPairs_25 caJ6_bitCount_0f7a4 lX10_243 stJ6_bitCount_0f7a4 rfl naJ6_bitCount_0f7a4 (Nat.le_of_ble_eq_true rfl) (Nat.le_of_ble_eq_true rfl) (by decide) (fun _ hq => wJ6_bitCount_0f7a4 (μ.1 209 v2.toNatClampNeg) μ hq) h (fun q1 h => ?_)
      refine rw_iadd 28 dX10_clashingPairs_28 ?_
      refine rw_istore_n 29 [(0, .ref 0), (1, .int (v1 + q1)), (2, .int v2)] dX10_clashingPairs_29 (by decide) rfl ?_
      refine rw_iinc 30 [(0, .ref 0), (1, .int (v1 + q1)), (2, .int (v2 + 1))] dX10_clashingPairs_30 2 rfl rfl (by decide) rfl ?_
      refine rw_goto 33 4 dX10_clashingPairs_33 (by decide) ?_
      exact ih (v1 + q1) (v2 + 1) h
set_option maxRecDepth 100000 in
theorem wX10_clashingPairs  (μ : Mem) {res : Int32} (h : fX10_clashingPairs  μ = some res) : Ct mX10_clashingPairs 2 NF NF [.ref 0] (μ, Rf0, NF) (QN (some (.int res)) μ Rf0 NF) := by
  unfold fX10_clashingPairs at h
  show RW mX10_clashingPairs 2 NF NF 0 [(0, .ref 0)] [] (μ, Rf0, NF) (QN (some (.int res)) μ Rf0 NF)
  refine rw_iconst 0 (v := 0) dX10_clashingPairs_0 (by decide) ?_
  refine rw_istore_n 1 [(0, .ref 0), (1, .int 0)] dX10_clashingPairs_1 (by decide) rfl ?_
  refine rw_iconst 2 (v := 0) dX10_clashingPairs_2 (by decide) ?_
  refine rw_istore_n 3 [(0, .ref 0), (1, .int 0), (2, .int 0)] dX10_clashingPairs_3 (by decide) rfl ?_
  refine wX10_clashingPairs_4 μ _ (fun y2 h => ?_) FU 0 0 h
  refine rw_iload_n 36 dX10_clashingPairs_36 0 rfl ?_
  refine rw_iconst 37 (v := 2) dX10_clashingPairs_37 (by decide) ?_
  refine rw_idiv 38 dX10_clashingPairs_38 (by decide) ?_
  exact rn_iret 39 dX10_clashingPairs_39 rfl h
def fX10_sundaysWithGuests_4    (μ : Mem) (K : Int32 → Option (Int32)) : Nat → Int32 → Int32 → Option (Int32)
  | 0, _, _ => none
  | n + 1, v1, v2 =>
    if v2 < (μ.1 199 0) then
      if inb v2 4 then
      if (μ.1 10 v2.toNatClampNeg) = 0 then
        fX10_sundaysWithGuests_4 μ K n v1 (v2 + 1)
      else
        nm (v1 ||| ((1 : Int32) <<< (v2 &&& 31))) fun x1 =>
        fX10_sundaysWithGuests_4 μ K n x1 (v2 + 1)
      else none
    else
      K v1
def fX10_sundaysWithGuests  (μ : Mem) : Option (Int32) :=
  fX10_sundaysWithGuests_4 μ (fun y2 =>
      some y2
  ) FU 0 0
set_option maxRecDepth 100000 in
theorem wX10_sundaysWithGuests_4    (μ : Mem) (K : Int32 → Option (Int32)) {res : Int32} (hK : ∀ (v1 : Int32), K v1 = some res → RW mX10_sundaysWithGuests 1 NF NF 39 [(1, .int v1)] [] (μ, Rf0, NF) (QN (some (.int res)) μ Rf0 NF)) : ∀ (n9 : Nat) (v1 : Int32) (v2 : Int32), fX10_sundaysWithGuests_4 μ K n9 v1 v2 = some res → RW mX10_sundaysWithGuests 1 NF NF 4 [(0, .ref 0), (1, .int v1), (2, .int v2)] [] (μ, Rf0, NF) (QN (some (.int res)) μ Rf0 NF) := by
  intro n9
  induction n9 with
  | zero => intro _ _ h; cases h
  | succ n ih =>
    intro v1 v2 h
    unfold fX10_sundaysWithGuests_4 at h
    refine rw_iload_n 4 dX10_sundaysWithGuests_4 2 rfl ?_
    refine rw_aload_n 5 dX10_sundaysWithGuests_5 0 rfl ?_
    refine rw_getR 6 10 9 kc10 dX10_sundaysWithGuests_6 ly_0 rln_0 fX10_68 rfl rf_0_9 ?_
    refine rw_getI 9 7 0 kc7 dX10_sundaysWithGuests_9 ly_199 rln_199 fX10_214 rfl ?_
    refine rn_icmp_ge 12 39 dX10_sundaysWithGuests_12 (by decide) h (fun _ h => ?_) (fun _ h => ?_)
    · refine rw_pick 39 [1] rfl ?_
      exact hK v1 h
    · refine rw_aload_n 15 dX10_sundaysWithGuests_15 0 rfl ?_
      refine rw_getR 16 10 2 kc10 dX10_sundaysWithGuests_16 ly_0 rln_0 fX10_26 rfl rf_0_2 ?_
      refine rw_getR 19 5 4 kc5 dX10_sundaysWithGuests_19 ly_9 rln_9 fX10_123 rfl rf_9_4 ?_
      refine rw_iload_n 22 dX10_sundaysWithGuests_22 2 rfl ?_
      refine rn_iald 23 dX10_sundaysWithGuests_23 ly_10 rln_10 h (fun h => ?_)
      refine rn_if_eq 24 33 dX10_sundaysWithGuests_24 (by decide) h (fun _ h => ?_) (fun _ h => ?_)
      · refine rw_iinc 33 [(0, .ref 0), (1, .int v1), (2, .int (v2 + 1))] dX10_sundaysWithGuests_33 2 rfl rfl (by decide) rfl ?_
        refine rw_goto 36 4 dX10_sundaysWithGuests_36 (by decide) ?_
        exact ih v1 (v2 + 1) h
      · refine rw_iload_n 27 dX10_sundaysWithGuests_27 1 rfl ?_
        refine rw_iconst 28 (v := 1) dX10_sundaysWithGuests_28 (by decide) ?_
        refine rw_iload_n 29 dX10_sundaysWithGuests_29 2 rfl ?_
        refine rw_ishl 30 dX10_sundaysWithGuests_30 ?_
        refine rw_ior 31 dX10_sundaysWithGuests_31 ?_
        refine rn_ist_n 32 (fun x1 => [(0, .ref 0), (1, .int x1), (2, .int v2)]) dX10_sundaysWithGuests_32 (by decide) (fun _ => rfl) h (fun x1 h => ?_)
        refine rw_iinc 33 [(0, .ref 0), (1, .int x1), (2, .int (v2 + 1))] dX10_sundaysWithGuests_33 2 rfl rfl (by decide) rfl ?_
        refine rw_goto 36 4 dX10_sundaysWithGuests_36 (by decide) ?_
        exact ih x1 (v2 + 1) h
set_option maxRecDepth 100000 in
theorem wX10_sundaysWithGuests  (μ : Mem) {res : Int32} (h : fX10_sundaysWithGuests  μ = some res) : Ct mX10_sundaysWithGuests 1 NF NF [.ref 0] (μ, Rf0, NF) (QN (some (.int res)) μ Rf0 NF) := by
  unfold fX10_sundaysWithGuests at h
  show RW mX10_sundaysWithGuests 1 NF NF 0 [(0, .ref 0)] [] (μ, Rf0, NF) (QN (some (.int res)) μ Rf0 NF)
  refine rw_iconst 0 (v := 0) dX10_sundaysWithGuests_0 (by decide) ?_
  refine rw_istore_n 1 [(0, .ref 0), (1, .int 0)] dX10_sundaysWithGuests_1 (by decide) rfl ?_
  refine rw_iconst 2 (v := 0) dX10_sundaysWithGuests_2 (by decide) ?_
  refine rw_istore_n 3 [(0, .ref 0), (1, .int 0), (2, .int 0)] dX10_sundaysWithGuests_3 (by decide) rfl ?_
  refine wX10_sundaysWithGuests_4 μ _ (fun y2 h => ?_) FU 0 0 h
  refine rw_iload_n 39 dX10_sundaysWithGuests_39 0 rfl ?_
  exact rn_iret 40 dX10_sundaysWithGuests_40 rfl h
def fX10_guestsFittingAny_4    (μ : Mem) (K : Int32 → Option (Int32)) : Nat → Int32 → Int32 → Option (Int32)
  | 0, _, _ => none
  | n + 1, v1, v2 =>
    if v2 < (μ.1 199 3) then
      (fX10_sundaysFitting v2 μ).bind fun q1 =>
      if q1 = 0 then
        fX10_guestsFittingAny_4 μ K n v1 (v2 + 1)
      else
        nm (v1 ||| ((1 : Int32) <<< (v2 &&& 31))) fun x2 =>
        fX10_guestsFittingAny_4 μ K n x2 (v2 + 1)
    else
      K v1
def fX10_guestsFittingAny  (μ : Mem) : Option (Int32) :=
  fX10_guestsFittingAny_4 μ (fun y3 =>
      some y3
  ) FU 0 0
set_option maxRecDepth 100000 in
theorem wX10_guestsFittingAny_4    (μ : Mem) (K : Int32 → Option (Int32)) {res : Int32} (hK : ∀ (v1 : Int32), K v1 = some res → RW mX10_guestsFittingAny 3 NF NF 35 [(1, .int v1)] [] (μ, Rf0, NF) (QN (some (.int res)) μ Rf0 NF)) : ∀ (n9 : Nat) (v1 : Int32) (v2 : Int32), fX10_guestsFittingAny_4 μ K n9 v1 v2 = some res → RW mX10_guestsFittingAny 3 NF NF 4 [(0, .ref 0), (1, .int v1), (2, .int v2)] [] (μ, Rf0, NF) (QN (some (.int res)) μ Rf0 NF) := by
  intro n9
  induction n9 with
  | zero => intro _ _ h; cases h
  | succ n ih =>
    intro v1 v2 h
    unfold fX10_guestsFittingAny_4 at h
    refine rw_iload_n 4 dX10_guestsFittingAny_4 2 rfl ?_
    refine rw_aload_n 5 dX10_guestsFittingAny_5 0 rfl ?_
    refine rw_getR 6 10 9 kc10 dX10_guestsFittingAny_6 ly_0 rln_0 fX10_68 rfl rf_0_9 ?_
    refine rw_getI 9 7 3 kc7 dX10_guestsFittingAny_9 ly_199 rln_199 fX10_155 rfl ?_
    refine rn_icmp_ge 12 35 dX10_guestsFittingAny_12 (by decide) h (fun _ h => ?_) (fun _ h => ?_)
    · refine rw_pick 35 [1] rfl ?_
      exact hK v1 h
    · refine rw_aload_n 15 dX10_guestsFittingAny_15 0 rfl ?_
      refine rw_iload_n 16 dX10_guestsFittingAny_16 2 rfl ?_
      refine rn_cVpi 17 10 [.int v2] dX10_guestsFittingAny_17 caX10_sundaysFitting lX10_248 inX10_sundaysFitting slX10_sundaysFitting rfl ly_0 ⟨_, rfl, rfl⟩ rln_0 naX10_sundaysFitting (Nat.le_of_ble_eq_true rfl) (Nat.le_of_ble_eq_true rfl) (by decide) (fun _ hq => wX10_sundaysFitting v2 μ hq) h (fun q1 h => ?_)
      refine rn_if_eq 20 29 dX10_guestsFittingAny_20 (by decide) h (fun _ h => ?_) (fun _ h => ?_)
      · refine rw_iinc 29 [(0, .ref 0), (1, .int v1), (2, .int (v2 + 1))] dX10_guestsFittingAny_29 2 rfl rfl (by decide) rfl ?_
        refine rw_goto 32 4 dX10_guestsFittingAny_32 (by decide) ?_
        exact ih v1 (v2 + 1) h
      · refine rw_iload_n 23 dX10_guestsFittingAny_23 1 rfl ?_
        refine rw_iconst 24 (v := 1) dX10_guestsFittingAny_24 (by decide) ?_
        refine rw_iload_n 25 dX10_guestsFittingAny_25 2 rfl ?_
        refine rw_ishl 26 dX10_guestsFittingAny_26 ?_
        refine rw_ior 27 dX10_guestsFittingAny_27 ?_
        refine rn_ist_n 28 (fun x2 => [(0, .ref 0), (1, .int x2), (2, .int v2)]) dX10_guestsFittingAny_28 (by decide) (fun _ => rfl) h (fun x2 h => ?_)
        refine rw_iinc 29 [(0, .ref 0), (1, .int x2), (2, .int (v2 + 1))] dX10_guestsFittingAny_29 2 rfl rfl (by decide) rfl ?_
        refine rw_goto 32 4 dX10_guestsFittingAny_32 (by decide) ?_
        exact ih x2 (v2 + 1) h
set_option maxRecDepth 100000 in
theorem wX10_guestsFittingAny  (μ : Mem) {res : Int32} (h : fX10_guestsFittingAny  μ = some res) : Ct mX10_guestsFittingAny 3 NF NF [.ref 0] (μ, Rf0, NF) (QN (some (.int res)) μ Rf0 NF) := by
  unfold fX10_guestsFittingAny at h
  show RW mX10_guestsFittingAny 3 NF NF 0 [(0, .ref 0)] [] (μ, Rf0, NF) (QN (some (.int res)) μ Rf0 NF)
  refine rw_iconst 0 (v := 0) dX10_guestsFittingAny_0 (by decide) ?_
  refine rw_istore_n 1 [(0, .ref 0), (1, .int 0)] dX10_guestsFittingAny_1 (by decide) rfl ?_
  refine rw_iconst 2 (v := 0) dX10_guestsFittingAny_2 (by decide) ?_
  refine rw_istore_n 3 [(0, .ref 0), (1, .int 0), (2, .int 0)] dX10_guestsFittingAny_3 (by decide) rfl ?_
  refine wX10_guestsFittingAny_4 μ _ (fun y3 h => ?_) FU 0 0 h
  refine rw_iload_n 35 dX10_guestsFittingAny_35 0 rfl ?_
  exact rn_iret 36 dX10_guestsFittingAny_36 rfl h
def fX10_hoursNotSold_4    (μ : Mem) (K : Int32 → Option (Int32)) : Nat → Int32 → Int32 → Option (Int32)
  | 0, _, _ => none
  | n + 1, v1, v2 =>
    if v2 < (μ.1 199 0) then
      (fX5_isSold 9 v2 μ).bind fun q1 =>
      if q1 = true then
        fX10_hoursNotSold_4 μ K n v1 (v2 + 1)
      else
        if inb v2 4 then
        nm (v1 + (μ.1 200 v2.toNatClampNeg)) fun x2 =>
        fX10_hoursNotSold_4 μ K n x2 (v2 + 1)
        else none
    else
      K v1
def fX10_hoursNotSold  (μ : Mem) : Option (Int32) :=
  fX10_hoursNotSold_4 μ (fun y3 =>
      some y3
  ) FU 0 0
set_option maxRecDepth 100000 in
theorem wX10_hoursNotSold_4    (μ : Mem) (K : Int32 → Option (Int32)) {res : Int32} (hK : ∀ (v1 : Int32), K v1 = some res → RW mX10_hoursNotSold 2 NF NF 44 [(1, .int v1)] [] (μ, Rf0, NF) (QN (some (.int res)) μ Rf0 NF)) : ∀ (n9 : Nat) (v1 : Int32) (v2 : Int32), fX10_hoursNotSold_4 μ K n9 v1 v2 = some res → RW mX10_hoursNotSold 2 NF NF 4 [(0, .ref 0), (1, .int v1), (2, .int v2)] [] (μ, Rf0, NF) (QN (some (.int res)) μ Rf0 NF) := by
  intro n9
  induction n9 with
  | zero => intro _ _ h; cases h
  | succ n ih =>
    intro v1 v2 h
    unfold fX10_hoursNotSold_4 at h
    refine rw_iload_n 4 dX10_hoursNotSold_4 2 rfl ?_
    refine rw_aload_n 5 dX10_hoursNotSold_5 0 rfl ?_
    refine rw_getR 6 10 9 kc10 dX10_hoursNotSold_6 ly_0 rln_0 fX10_68 rfl rf_0_9 ?_
    refine rw_getI 9 7 0 kc7 dX10_hoursNotSold_9 ly_199 rln_199 fX10_214 rfl ?_
    refine rn_icmp_ge 12 44 dX10_hoursNotSold_12 (by decide) h (fun _ h => ?_) (fun _ h => ?_)
    · refine rw_pick 44 [1] rfl ?_
      exact hK v1 h
    · refine rw_aload_n 15 dX10_hoursNotSold_15 0 rfl ?_
      refine rw_getR 16 10 2 kc10 dX10_hoursNotSold_16 ly_0 rln_0 fX10_26 rfl rf_0_2 ?_
      refine rw_iload_n 19 dX10_hoursNotSold_19 2 rfl ?_
      refine rn_cVpb 20 5 [.int v2] dX10_hoursNotSold_20 caX5_isSold lX10_120 inX5_isSold slX5_isSold rfl ly_9 ⟨_, rfl, rfl⟩ rln_9 naX5_isSold (Nat.le_of_ble_eq_true rfl) (Nat.le_of_ble_eq_true rfl) (by decide) (fun _ hq => wX5_isSold 9 okX5_9 v2 μ hq) h (fun q1 h => ?_)
      refine rn_ifb_ne 23 38 dX10_hoursNotSold_23 (by decide) h (fun _ h => ?_) (fun _ h => ?_)
      · refine rw_iinc 38 [(0, .ref 0), (1, .int v1), (2, .int (v2 + 1))] dX10_hoursNotSold_38 2 rfl rfl (by decide) rfl ?_
        refine rw_goto 41 4 dX10_hoursNotSold_41 (by decide) ?_
        exact ih v1 (v2 + 1) h
      · refine rw_iload_n 26 dX10_hoursNotSold_26 1 rfl ?_
        refine rw_aload_n 27 dX10_hoursNotSold_27 0 rfl ?_
        refine rw_getR 28 10 9 kc10 dX10_hoursNotSold_28 ly_0 rln_0 fX10_68 rfl rf_0_9 ?_
        refine rw_getR 31 7 1 kc7 dX10_hoursNotSold_31 ly_199 rln_199 fX10_110 rfl rf_199_1 ?_
        refine rw_iload_n 34 dX10_hoursNotSold_34 2 rfl ?_
        refine rn_iald 35 dX10_hoursNotSold_35 ly_200 rln_200 h (fun h => ?_)
        refine rw_iadd 36 dX10_hoursNotSold_36 ?_
        refine rn_ist_n 37 (fun x2 => [(0, .ref 0), (1, .int x2), (2, .int v2)]) dX10_hoursNotSold_37 (by decide) (fun _ => rfl) h (fun x2 h => ?_)
        refine rw_iinc 38 [(0, .ref 0), (1, .int x2), (2, .int (v2 + 1))] dX10_hoursNotSold_38 2 rfl rfl (by decide) rfl ?_
        refine rw_goto 41 4 dX10_hoursNotSold_41 (by decide) ?_
        exact ih x2 (v2 + 1) h
set_option maxRecDepth 100000 in
theorem wX10_hoursNotSold  (μ : Mem) {res : Int32} (h : fX10_hoursNotSold  μ = some res) : Ct mX10_hoursNotSold 2 NF NF [.ref 0] (μ, Rf0, NF) (QN (some (.int res)) μ Rf0 NF) := by
  unfold fX10_hoursNotSold at h
  show RW mX10_hoursNotSold 2 NF NF 0 [(0, .ref 0)] [] (μ, Rf0, NF) (QN (some (.int res)) μ Rf0 NF)
  refine rw_iconst 0 (v := 0) dX10_hoursNotSold_0 (by decide) ?_
  refine rw_istore_n 1 [(0, .ref 0), (1, .int 0)] dX10_hoursNotSold_1 (by decide) rfl ?_
  refine rw_iconst 2 (v := 0) dX10_hoursNotSold_2 (by decide) ?_
  refine rw_istore_n 3 [(0, .ref 0), (1, .int 0), (2, .int 0)] dX10_hoursNotSold_3 (by decide) rfl ?_
  refine wX10_hoursNotSold_4 μ _ (fun y3 h => ?_) FU 0 0 h
  refine rw_iload_n 44 dX10_hoursNotSold_44 0 rfl ?_
  exact rn_iret 45 dX10_hoursNotSold_45 rfl h
def fX10_feesOfLiving_4    (μ : Mem) (K : Int32 → Option (Int32)) : Nat → Int32 → Int32 → Option (Int32)
  | 0, _, _ => none
  | n + 1, v1, v2 =>
    if v2 < (μ.1 199 3) then
      (fX5_isDead 9 v2 μ).bind fun q1 =>
      if q1 = true then
        fX10_feesOfLiving_4 μ K n v1 (v2 + 1)
      else
        if inb v2 7 then
        nm (v1 + (μ.1 204 v2.toNatClampNeg)) fun x2 =>
        fX10_feesOfLiving_4 μ K n x2 (v2 + 1)
        else none
    else
      K v1
def fX10_feesOfLiving  (μ : Mem) : Option (Int32) :=
  fX10_feesOfLiving_4 μ (fun y3 =>
      some y3
  ) FU 0 0
set_option maxRecDepth 100000 in
theorem wX10_feesOfLiving_4    (μ : Mem) (K : Int32 → Option (Int32)) {res : Int32} (hK : ∀ (v1 : Int32), K v1 = some res → RW mX10_feesOfLiving 2 NF NF 44 [(1, .int v1)] [] (μ, Rf0, NF) (QN (some (.int res)) μ Rf0 NF)) : ∀ (n9 : Nat) (v1 : Int32) (v2 : Int32), fX10_feesOfLiving_4 μ K n9 v1 v2 = some res → RW mX10_feesOfLiving 2 NF NF 4 [(0, .ref 0), (1, .int v1), (2, .int v2)] [] (μ, Rf0, NF) (QN (some (.int res)) μ Rf0 NF) := by
  intro n9
  induction n9 with
  | zero => intro _ _ h; cases h
  | succ n ih =>
    intro v1 v2 h
    unfold fX10_feesOfLiving_4 at h
    refine rw_iload_n 4 dX10_feesOfLiving_4 2 rfl ?_
    refine rw_aload_n 5 dX10_feesOfLiving_5 0 rfl ?_
    refine rw_getR 6 10 9 kc10 dX10_feesOfLiving_6 ly_0 rln_0 fX10_68 rfl rf_0_9 ?_
    refine rw_getI 9 7 3 kc7 dX10_feesOfLiving_9 ly_199 rln_199 fX10_155 rfl ?_
    refine rn_icmp_ge 12 44 dX10_feesOfLiving_12 (by decide) h (fun _ h => ?_) (fun _ h => ?_)
    · refine rw_pick 44 [1] rfl ?_
      exact hK v1 h
    · refine rw_aload_n 15 dX10_feesOfLiving_15 0 rfl ?_
      refine rw_getR 16 10 2 kc10 dX10_feesOfLiving_16 ly_0 rln_0 fX10_26 rfl rf_0_2 ?_
      refine rw_iload_n 19 dX10_feesOfLiving_19 2 rfl ?_
      refine rn_cVpb 20 5 [.int v2] dX10_feesOfLiving_20 caX5_isDead lX10_149 inX5_isDead slX5_isDead rfl ly_9 ⟨_, rfl, rfl⟩ rln_9 naX5_isDead (Nat.le_of_ble_eq_true rfl) (Nat.le_of_ble_eq_true rfl) (by decide) (fun _ hq => wX5_isDead 9 okX5_9 v2 μ hq) h (fun q1 h => ?_)
      refine rn_ifb_ne 23 38 dX10_feesOfLiving_23 (by decide) h (fun _ h => ?_) (fun _ h => ?_)
      · refine rw_iinc 38 [(0, .ref 0), (1, .int v1), (2, .int (v2 + 1))] dX10_feesOfLiving_38 2 rfl rfl (by decide) rfl ?_
        refine rw_goto 41 4 dX10_feesOfLiving_41 (by decide) ?_
        exact ih v1 (v2 + 1) h
      · refine rw_iload_n 26 dX10_feesOfLiving_26 1 rfl ?_
        refine rw_aload_n 27 dX10_feesOfLiving_27 0 rfl ?_
        refine rw_getR 28 10 9 kc10 dX10_feesOfLiving_28 ly_0 rln_0 fX10_68 rfl rf_0_9 ?_
        refine rw_getR 31 7 6 kc7 dX10_feesOfLiving_31 ly_199 rln_199 fX10_139 rfl rf_199_6 ?_
        refine rw_iload_n 34 dX10_feesOfLiving_34 2 rfl ?_
        refine rn_iald 35 dX10_feesOfLiving_35 ly_204 rln_204 h (fun h => ?_)
        refine rw_iadd 36 dX10_feesOfLiving_36 ?_
        refine rn_ist_n 37 (fun x2 => [(0, .ref 0), (1, .int x2), (2, .int v2)]) dX10_feesOfLiving_37 (by decide) (fun _ => rfl) h (fun x2 h => ?_)
        refine rw_iinc 38 [(0, .ref 0), (1, .int x2), (2, .int (v2 + 1))] dX10_feesOfLiving_38 2 rfl rfl (by decide) rfl ?_
        refine rw_goto 41 4 dX10_feesOfLiving_41 (by decide) ?_
        exact ih x2 (v2 + 1) h
set_option maxRecDepth 100000 in
theorem wX10_feesOfLiving  (μ : Mem) {res : Int32} (h : fX10_feesOfLiving  μ = some res) : Ct mX10_feesOfLiving 2 NF NF [.ref 0] (μ, Rf0, NF) (QN (some (.int res)) μ Rf0 NF) := by
  unfold fX10_feesOfLiving at h
  show RW mX10_feesOfLiving 2 NF NF 0 [(0, .ref 0)] [] (μ, Rf0, NF) (QN (some (.int res)) μ Rf0 NF)
  refine rw_iconst 0 (v := 0) dX10_feesOfLiving_0 (by decide) ?_
  refine rw_istore_n 1 [(0, .ref 0), (1, .int 0)] dX10_feesOfLiving_1 (by decide) rfl ?_
  refine rw_iconst 2 (v := 0) dX10_feesOfLiving_2 (by decide) ?_
  refine rw_istore_n 3 [(0, .ref 0), (1, .int 0), (2, .int 0)] dX10_feesOfLiving_3 (by decide) rfl ?_
  refine wX10_feesOfLiving_4 μ _ (fun y3 h => ?_) FU 0 0 h
  refine rw_iload_n 44 dX10_feesOfLiving_44 0 rfl ?_
  exact rn_iret 45 dX10_feesOfLiving_45 rfl h
def fX10_count (a1 : Int32) (μ : Mem) : Option (Int32 × Mem) :=
  if a1 = 0 then
    some ((μ.1 199 0), μ)
  else
  if a1 = 1 then
    some ((μ.1 199 3), μ)
  else
  if a1 = 2 then
    some ((μ.1 9 0), μ)
  else
  if a1 = 3 then
    some ((μ.1 9 1), μ)
  else
  if a1 = 4 then
    (fX5_allIn 9 μ).bind fun q6 =>
    some (q6, μ)
  else
  if a1 = 5 then
    some ((μ.1 9 2), μ)
  else
  if a1 = 6 then
    some ((μ.1 9 3), μ)
  else
  if a1 = 7 then
    (fX10_moneyDue μ).bind fun q10 =>
    some (q10.1, q10.2)
  else
  if a1 = 8 then
    some ((μ.1 1 1), μ)
  else
  if a1 = 9 then
    some ((μ.1 17 0), μ)
  else
  if a1 = 10 then
    some ((μ.1 196 0), μ)
  else
  if a1 = 11 then
    (fJ6_bitCount_0f7a4 (μ.1 0 11) μ).bind fun q15 =>
    some (q15, μ)
  else
  if a1 = 12 then
    (fX10_sumOf 11 4 μ).bind fun q17 =>
    some (q17, μ)
  else
  if a1 = 13 then
    (fX10_sumOf 12 7 μ).bind fun q19 =>
    some (q19, μ)
  else
  if a1 = 14 then
    (fX10_clashingPairs μ).bind fun q21 =>
    some (q21, μ)
  else
  if a1 = 15 then
    (fX10_sundaysWithGuests μ).bind fun q23 =>
    some (q23, μ)
  else
  if a1 = 16 then
    (fX10_guestsFittingAny μ).bind fun q25 =>
    some (q25, μ)
  else
  if a1 = 17 then
    (fX10_hoursNotSold μ).bind fun q27 =>
    some (q27, μ)
  else
  if a1 = 18 then
    (fX10_feesOfLiving μ).bind fun q29 =>
    some (q29, μ)
  else
    some ((-1), μ)
set_option maxRecDepth 100000 in
theorem wX10_count (a1 : Int32) (μ : Mem) {res : Int32 × Mem} (h : fX10_count a1 μ = some res) : Ct mX10_count 7 NF NF [.ref 0, .int a1] (μ, Rf0, NF) (QN (some (.int res.1)) res.2 Rf0 NF) := by
  unfold fX10_count at h
  show RW mX10_count 7 NF NF 0 [(0, .ref 0), (1, .int a1)] [] (μ, Rf0, NF) (QN (some (.int res.1)) res.2 Rf0 NF)
  refine rw_iload_n 0 dX10_count_0 1 rfl ?_
  rcases if_b h with ⟨c1, h⟩ | ⟨c1, h⟩
  · refine rn_tab 1 0 92 dX10_count_1 c1 (by decide) (by decide) rfl (by decide) ?_
    refine rw_aload_n 92 dX10_count_92 0 rfl ?_
    refine rw_getR 93 10 9 kc10 dX10_count_93 ly_0 rln_0 fX10_68 rfl rf_0_9 ?_
    refine rw_getI 96 7 0 kc7 dX10_count_96 ly_199 rln_199 fX10_214 rfl ?_
    exact rn_iret2 99 dX10_count_99 rfl h
  · rcases if_b h with ⟨c2, h⟩ | ⟨c2, h⟩
    · refine rn_tab 1 1 100 dX10_count_1 c2 (by decide) (by decide) rfl (by decide) ?_
      refine rw_aload_n 100 dX10_count_100 0 rfl ?_
      refine rw_getR 101 10 9 kc10 dX10_count_101 ly_0 rln_0 fX10_68 rfl rf_0_9 ?_
      refine rw_getI 104 7 3 kc7 dX10_count_104 ly_199 rln_199 fX10_155 rfl ?_
      exact rn_iret2 107 dX10_count_107 rfl h
    · rcases if_b h with ⟨c3, h⟩ | ⟨c3, h⟩
      · refine rn_tab 1 2 108 dX10_count_1 c3 (by decide) (by decide) rfl (by decide) ?_
        refine rw_aload_n 108 dX10_count_108 0 rfl ?_
        refine rw_getR 109 10 2 kc10 dX10_count_109 ly_0 rln_0 fX10_26 rfl rf_0_2 ?_
        refine rw_getI 112 5 0 kc5 dX10_count_112 ly_9 rln_9 fX10_192 rfl ?_
        exact rn_iret2 115 dX10_count_115 rfl h
      · rcases if_b h with ⟨c4, h⟩ | ⟨c4, h⟩
        · refine rn_tab 1 3 116 dX10_count_1 c4 (by decide) (by decide) rfl (by decide) ?_
          refine rw_aload_n 116 dX10_count_116 0 rfl ?_
          refine rw_getR 117 10 2 kc10 dX10_count_117 ly_0 rln_0 fX10_26 rfl rf_0_2 ?_
          refine rw_getI 120 5 1 kc5 dX10_count_120 ly_9 rln_9 fX10_179 rfl ?_
          exact rn_iret2 123 dX10_count_123 rfl h
        · rcases if_b h with ⟨c5, h⟩ | ⟨c5, h⟩
          · refine rn_tab 1 4 124 dX10_count_1 c5 (by decide) (by decide) rfl (by decide) ?_
            refine rw_aload_n 124 dX10_count_124 0 rfl ?_
            refine rw_getR 125 10 2 kc10 dX10_count_125 ly_0 rln_0 fX10_26 rfl rf_0_2 ?_
            refine rn_cVpi 128 5 [] dX10_count_128 caX5_allIn lX10_289 inX5_allIn slX5_allIn rfl ly_9 ⟨_, rfl, rfl⟩ rln_9 naX5_allIn (Nat.le_of_ble_eq_true rfl) (Nat.le_of_ble_eq_true rfl) (by decide) (fun _ hq => wX5_allIn 9 okX5_9 μ hq) h (fun q6 h => ?_)
            exact rn_iret2 131 dX10_count_131 rfl h
          · rcases if_b h with ⟨c7, h⟩ | ⟨c7, h⟩
            · refine rn_tab 1 5 132 dX10_count_1 c7 (by decide) (by decide) rfl (by decide) ?_
              refine rw_aload_n 132 dX10_count_132 0 rfl ?_
              refine rw_getR 133 10 2 kc10 dX10_count_133 ly_0 rln_0 fX10_26 rfl rf_0_2 ?_
              refine rw_getI 136 5 2 kc5 dX10_count_136 ly_9 rln_9 fX10_292 rfl ?_
              exact rn_iret2 139 dX10_count_139 rfl h
            · rcases if_b h with ⟨c8, h⟩ | ⟨c8, h⟩
              · refine rn_tab 1 6 140 dX10_count_1 c8 (by decide) (by decide) rfl (by decide) ?_
                refine rw_aload_n 140 dX10_count_140 0 rfl ?_
                refine rw_getR 141 10 2 kc10 dX10_count_141 ly_0 rln_0 fX10_26 rfl rf_0_2 ?_
                refine rw_getI 144 5 3 kc5 dX10_count_144 ly_9 rln_9 fX10_176 rfl ?_
                exact rn_iret2 147 dX10_count_147 rfl h
              · rcases if_b h with ⟨c9, h⟩ | ⟨c9, h⟩
                · refine rn_tab 1 7 148 dX10_count_1 c9 (by decide) (by decide) rfl (by decide) ?_
                  refine rw_aload_n 148 dX10_count_148 0 rfl ?_
                  refine rn_cVmi 149 10 [] dX10_count_149 caX10_moneyDue lX10_295 inX10_moneyDue slX10_moneyDue rfl ly_0 ⟨_, rfl, rfl⟩ rln_0 naX10_moneyDue (Nat.le_of_ble_eq_true rfl) (Nat.le_of_ble_eq_true rfl) (by decide) (fun _ hq => wX10_moneyDue μ hq) h (fun q10 h => ?_)
                  exact rn_iret2 152 dX10_count_152 rfl h
                · rcases if_b h with ⟨c11, h⟩ | ⟨c11, h⟩
                  · refine rn_tab 1 8 153 dX10_count_1 c11 (by decide) (by decide) rfl (by decide) ?_
                    refine rw_aload_n 153 dX10_count_153 0 rfl ?_
                    refine rw_getR 154 10 0 kc10 dX10_count_154 ly_0 rln_0 fX10_12 rfl rf_0_0 ?_
                    refine rw_getI 157 6 1 kc6 dX10_count_157 ly_1 rln_1 fX10_87 rfl ?_
                    exact rn_iret2 160 dX10_count_160 rfl h
                  · rcases if_b h with ⟨c12, h⟩ | ⟨c12, h⟩
                    · refine rn_tab 1 9 161 dX10_count_1 c12 (by decide) (by decide) rfl (by decide) ?_
                      refine rw_aload_n 161 dX10_count_161 0 rfl ?_
                      refine rw_getR 162 10 4 kc10 dX10_count_162 ly_0 rln_0 fX10_36 rfl rf_0_4 ?_
                      refine rw_getI 165 9 0 kc9 dX10_count_165 ly_17 rln_17 fX10_100 rfl ?_
                      exact rn_iret2 168 dX10_count_168 rfl h
                    · rcases if_b h with ⟨c13, h⟩ | ⟨c13, h⟩
                      · refine rn_tab 1 10 169 dX10_count_1 c13 (by decide) (by decide) rfl (by decide) ?_
                        refine rw_aload_n 169 dX10_count_169 0 rfl ?_
                        refine rw_getR 170 10 8 kc10 dX10_count_170 ly_0 rln_0 fX10_61 rfl rf_0_8 ?_
                        refine rw_getI 173 0 0 kc0 dX10_count_173 ly_196 rln_196 fX10_103 rfl ?_
                        exact rn_iret2 176 dX10_count_176 rfl h
                      · rcases if_b h with ⟨c14, h⟩ | ⟨c14, h⟩
                        · refine rn_tab 1 11 177 dX10_count_1 c14 (by decide) (by decide) rfl (by decide) ?_
                          refine rw_aload_n 177 dX10_count_177 0 rfl ?_
                          refine rw_getI 178 10 11 kc10 dX10_count_178 ly_0 rln_0 fX10_75 rfl ?_
                          refine rn_cSpi 181 [.int (μ.1 0 11)] dX10_count_181 caJ6_bitCount_0f7a4 lX10_243 stJ6_bitCount_0f7a4 rfl naJ6_bitCount_0f7a4 (Nat.le_of_ble_eq_true rfl) (Nat.le_of_ble_eq_true rfl) (by decide) (fun _ hq => wJ6_bitCount_0f7a4 (μ.1 0 11) μ hq) h (fun q15 h => ?_)
                          exact rn_iret2 184 dX10_count_184 rfl h
                        · rcases if_b h with ⟨c16, h⟩ | ⟨c16, h⟩
                          · refine rn_tab 1 12 185 dX10_count_1 c16 (by decide) (by decide) rfl (by decide) ?_
                            refine rw_aload_n 185 dX10_count_185 0 rfl ?_
                            refine rw_aload_n 186 dX10_count_186 0 rfl ?_
                            refine rw_getR 187 10 2 kc10 dX10_count_187 ly_0 rln_0 fX10_26 rfl rf_0_2 ?_
                            refine rw_getR 190 5 5 kc5 dX10_count_190 ly_9 rln_9 fX10_117 rfl rf_9_5 ?_
                            refine rn_cVpi 193 10 [.ref 11] dX10_count_193 caX10_sumOf lX10_298 inX10_sumOf slX10_sumOf rfl ly_0 ⟨_, rfl, rfl⟩ rln_0 naX10_sumOf (Nat.le_of_ble_eq_true rfl) (Nat.le_of_ble_eq_true rfl) (by decide) (fun _ hq => wX10_sumOf 11 4 ly_11 rln_11 μ hq) h (fun q17 h => ?_)
                            exact rn_iret2 196 dX10_count_196 rfl h
                          · rcases if_b h with ⟨c18, h⟩ | ⟨c18, h⟩
                            · refine rn_tab 1 13 197 dX10_count_1 c18 (by decide) (by decide) rfl (by decide) ?_
                              refine rw_aload_n 197 dX10_count_197 0 rfl ?_
                              refine rw_aload_n 198 dX10_count_198 0 rfl ?_
                              refine rw_getR 199 10 2 kc10 dX10_count_199 ly_0 rln_0 fX10_26 rfl rf_0_2 ?_
                              refine rw_getR 202 5 6 kc5 dX10_count_202 ly_9 rln_9 fX10_146 rfl rf_9_6 ?_
                              refine rn_cVpi 205 10 [.ref 12] dX10_count_205 caX10_sumOf lX10_298 inX10_sumOf slX10_sumOf rfl ly_0 ⟨_, rfl, rfl⟩ rln_0 naX10_sumOf (Nat.le_of_ble_eq_true rfl) (Nat.le_of_ble_eq_true rfl) (by decide) (fun _ hq => wX10_sumOf 12 7 ly_12 rln_12 μ hq) h (fun q19 h => ?_)
                              exact rn_iret2 208 dX10_count_208 rfl h
                            · rcases if_b h with ⟨c20, h⟩ | ⟨c20, h⟩
                              · refine rn_tab 1 14 209 dX10_count_1 c20 (by decide) (by decide) rfl (by decide) ?_
                                refine rw_aload_n 209 dX10_count_209 0 rfl ?_
                                refine rn_cVpi 210 10 [] dX10_count_210 caX10_clashingPairs lX10_302 inX10_clashingPairs slX10_clashingPairs rfl ly_0 ⟨_, rfl, rfl⟩ rln_0 naX10_clashingPairs (Nat.le_of_ble_eq_true rfl) (Nat.le_of_ble_eq_true rfl) (by decide) (fun _ hq => wX10_clashingPairs μ hq) h (fun q21 h => ?_)
                                exact rn_iret2 213 dX10_count_213 rfl h
                              · rcases if_b h with ⟨c22, h⟩ | ⟨c22, h⟩
                                · refine rn_tab 1 15 214 dX10_count_1 c22 (by decide) (by decide) rfl (by decide) ?_
                                  refine rw_aload_n 214 dX10_count_214 0 rfl ?_
                                  refine rn_cVpi 215 10 [] dX10_count_215 caX10_sundaysWithGuests lX10_305 inX10_sundaysWithGuests slX10_sundaysWithGuests rfl ly_0 ⟨_, rfl, rfl⟩ rln_0 naX10_sundaysWithGuests (Nat.le_of_ble_eq_true rfl) (Nat.le_of_ble_eq_true rfl) (by decide) (fun _ hq => wX10_sundaysWithGuests μ hq) h (fun q23 h => ?_)
                                  exact rn_iret2 218 dX10_count_218 rfl h
                                · rcases if_b h with ⟨c24, h⟩ | ⟨c24, h⟩
                                  · refine rn_tab 1 16 219 dX10_count_1 c24 (by decide) (by decide) rfl (by decide) ?_
                                    refine rw_aload_n 219 dX10_count_219 0 rfl ?_
                                    refine rn_cVpi 220 10 [] dX10_count_220 caX10_guestsFittingAny lX10_308 inX10_guestsFittingAny slX10_guestsFittingAny rfl ly_0 ⟨_, rfl, rfl⟩ rln_0 naX10_guestsFittingAny (Nat.le_of_ble_eq_true rfl) (Nat.le_of_ble_eq_true rfl) (by decide) (fun _ hq => wX10_guestsFittingAny μ hq) h (fun q25 h => ?_)
                                    exact rn_iret2 223 dX10_count_223 rfl h
                                  · rcases if_b h with ⟨c26, h⟩ | ⟨c26, h⟩
                                    · refine rn_tab 1 17 224 dX10_count_1 c26 (by decide) (by decide) rfl (by decide) ?_
                                      refine rw_aload_n 224 dX10_count_224 0 rfl ?_
                                      refine rn_cVpi 225 10 [] dX10_count_225 caX10_hoursNotSold lX10_311 inX10_hoursNotSold slX10_hoursNotSold rfl ly_0 ⟨_, rfl, rfl⟩ rln_0 naX10_hoursNotSold (Nat.le_of_ble_eq_true rfl) (Nat.le_of_ble_eq_true rfl) (by decide) (fun _ hq => wX10_hoursNotSold μ hq) h (fun q27 h => ?_)
                                      exact rn_iret2 228 dX10_count_228 rfl h
                                    · rcases if_b h with ⟨c28, h⟩ | ⟨c28, h⟩
                                      · refine rn_tab 1 18 229 dX10_count_1 c28 (by decide) (by decide) rfl (by decide) ?_
                                        refine rw_aload_n 229 dX10_count_229 0 rfl ?_
                                        refine rn_cVpi 230 10 [] dX10_count_230 caX10_feesOfLiving lX10_314 inX10_feesOfLiving slX10_feesOfLiving rfl ly_0 ⟨_, rfl, rfl⟩ rln_0 naX10_feesOfLiving (Nat.le_of_ble_eq_true rfl) (Nat.le_of_ble_eq_true rfl) (by decide) (fun _ hq => wX10_feesOfLiving μ hq) h (fun q29 h => ?_)
                                        exact rn_iret2 233 dX10_count_233 rfl h
                                      · refine rw_tabOut 1 (x := a1) 234 dX10_count_1 (by have := ne_int c1 (k := 0) (by decide); have := ne_int c2 (k := 1) (by decide); have := ne_int c3 (k := 2) (by decide); have := ne_int c4 (k := 3) (by decide); have := ne_int c5 (k := 4) (by decide); have := ne_int c7 (k := 5) (by decide); have := ne_int c8 (k := 6) (by decide); have := ne_int c9 (k := 7) (by decide); have := ne_int c11 (k := 8) (by decide); have := ne_int c12 (k := 9) (by decide); have := ne_int c13 (k := 10) (by decide); have := ne_int c14 (k := 11) (by decide); have := ne_int c16 (k := 12) (by decide); have := ne_int c18 (k := 13) (by decide); have := ne_int c20 (k := 14) (by decide); have := ne_int c22 (k := 15) (by decide); have := ne_int c24 (k := 16) (by decide); have := ne_int c26 (k := 17) (by decide); have := ne_int c28 (k := 18) (by decide); omega) (by decide) ?_
                                        refine rw_iconst 234 (v := -1) dX10_count_234 (by decide) ?_
                                        exact rn_iret2 235 dX10_count_235 rfl h
def fX11_plain_38   (v1 : Int32)  (K : Mem → Option (Mem)) : Nat → Int32 → Mem → Option (Mem)
  | 0, _, _ => none
  | n + 1, v2, μ =>
    if v2 < 7 then
      if inb ((7 * v1) + v2) 14 then nm (wI μ 260 ((7 * v1) + v2).toNatClampNeg 0) fun μ6 =>
      fX11_plain_38 v1 K n (v2 + 1) μ6
      else none
    else
      K μ
def fX11_plain_64   (v1 : Int32)  (K : Mem → Option (Mem)) : Nat → Int32 → Mem → Option (Mem)
  | 0, _, _ => none
  | n + 1, v2, μ =>
    if v2 < 4 then
      if inb ((4 * v1) + v2) 8 then nm (wI μ 264 ((4 * v1) + v2).toNatClampNeg 0) fun μ8 =>
      if inb ((4 * v1) + v2) 8 then nm (wI μ8 265 ((4 * v1) + v2).toNatClampNeg 0) fun μ9 =>
      fX11_plain_64 v1 K n (v2 + 1) μ9
      else none
      else none
    else
      K μ
def fX11_plain (a1 : Int32) (μ : Mem) : Option (Mem) :=
  if inb a1 2 then nm (wI μ 253 a1.toNatClampNeg 0) fun μ1 =>
  if inb a1 2 then nm (wI μ1 256 a1.toNatClampNeg 0) fun μ2 =>
  if inb a1 2 then nm (wI μ2 261 a1.toNatClampNeg 0) fun μ3 =>
  if inb a1 2 then nm (wI μ3 262 a1.toNatClampNeg 100) fun μ4 =>
  if inb a1 2 then nm (wI μ4 263 a1.toNatClampNeg 0) fun μ5 =>
  fX11_plain_38 a1 (fun μ7 =>
      fX11_plain_64 a1 (fun μ10 =>
          some μ10
      ) FU 0 μ7
  ) FU 0 μ5
  else none
  else none
  else none
  else none
  else none
set_option maxRecDepth 100000 in
theorem wX11_plain_38   (v1 : Int32)  (K : Mem → Option (Mem)) {res : Mem} (hK : ∀  (μ : Mem), K μ = some res → RW mX11_plain 1 NF NF 62 [(0, .ref 243), (1, .int v1)] [] (μ, Rf0, NF) (QN none res Rf0 NF)) : ∀ (n9 : Nat) (v2 : Int32) (μ : Mem), fX11_plain_38 v1 K n9 v2 μ = some res → RW mX11_plain 1 NF NF 38 [(0, .ref 243), (1, .int v1), (2, .int v2)] [] (μ, Rf0, NF) (QN none res Rf0 NF) := by
  intro n9
  induction n9 with
  | zero => intro _ _ h; cases h
  | succ n ih =>
    intro v2 μ h
    unfold fX11_plain_38 at h
    refine rw_iload_n 38 dX11_plain_38 2 rfl ?_
    refine rw_bipush 39 (v := 7) dX11_plain_39 (by decide) ?_
    refine rn_icmp_ge 41 62 dX11_plain_41 (by decide) h (fun _ h => ?_) (fun _ h => ?_)
    · refine rw_pick 62 [0, 1] rfl ?_
      exact hK μ h
    · refine rw_aload_n 44 dX11_plain_44 0 rfl ?_
      refine rw_getR 45 11 30 kc11 dX11_plain_45 ly_243 rln_243 fX11_67 rfl rf_243_30 ?_
      refine rw_bipush 48 (v := 7) dX11_plain_48 (by decide) ?_
      refine rw_iload_n 50 dX11_plain_50 1 rfl ?_
      refine rw_imul 51 dX11_plain_51 ?_
      refine rw_iload_n 52 dX11_plain_52 2 rfl ?_
      refine rw_iadd 53 dX11_plain_53 ?_
      refine rw_iconst 54 (v := 0) dX11_plain_54 (by decide) ?_
      refine rn_iast 55 dX11_plain_55 ly_260 rln_260 h (fun μ6 h => ?_)
      refine rw_iinc 56 [(0, .ref 243), (1, .int v1), (2, .int (v2 + 1))] dX11_plain_56 2 rfl rfl (by decide) rfl ?_
      refine rw_goto 59 38 dX11_plain_59 (by decide) ?_
      exact ih (v2 + 1) μ6 h
set_option maxRecDepth 100000 in
theorem wX11_plain_64   (v1 : Int32)  (K : Mem → Option (Mem)) {res : Mem} (hK : ∀  (μ : Mem), K μ = some res → RW mX11_plain 1 NF NF 97 [] [] (μ, Rf0, NF) (QN none res Rf0 NF)) : ∀ (n9 : Nat) (v2 : Int32) (μ : Mem), fX11_plain_64 v1 K n9 v2 μ = some res → RW mX11_plain 1 NF NF 64 [(0, .ref 243), (1, .int v1), (2, .int v2)] [] (μ, Rf0, NF) (QN none res Rf0 NF) := by
  intro n9
  induction n9 with
  | zero => intro _ _ h; cases h
  | succ n ih =>
    intro v2 μ h
    unfold fX11_plain_64 at h
    refine rw_iload_n 64 dX11_plain_64 2 rfl ?_
    refine rw_iconst 65 (v := 4) dX11_plain_65 (by decide) ?_
    refine rn_icmp_ge 66 97 dX11_plain_66 (by decide) h (fun _ h => ?_) (fun _ h => ?_)
    · refine rw_pick 97 [] rfl ?_
      exact hK μ h
    · refine rw_aload_n 69 dX11_plain_69 0 rfl ?_
      refine rw_getR 70 11 34 kc11 dX11_plain_70 ly_243 rln_243 fX11_79 rfl rf_243_34 ?_
      refine rw_iconst 73 (v := 4) dX11_plain_73 (by decide) ?_
      refine rw_iload_n 74 dX11_plain_74 1 rfl ?_
      refine rw_imul 75 dX11_plain_75 ?_
      refine rw_iload_n 76 dX11_plain_76 2 rfl ?_
      refine rw_iadd 77 dX11_plain_77 ?_
      refine rw_iconst 78 (v := 0) dX11_plain_78 (by decide) ?_
      refine rn_iast 79 dX11_plain_79 ly_264 rln_264 h (fun μ8 h => ?_)
      refine rw_aload_n 80 dX11_plain_80 0 rfl ?_
      refine rw_getR 81 11 35 kc11 dX11_plain_81 ly_243 rln_243 fX11_82 rfl rf_243_35 ?_
      refine rw_iconst 84 (v := 4) dX11_plain_84 (by decide) ?_
      refine rw_iload_n 85 dX11_plain_85 1 rfl ?_
      refine rw_imul 86 dX11_plain_86 ?_
      refine rw_iload_n 87 dX11_plain_87 2 rfl ?_
      refine rw_iadd 88 dX11_plain_88 ?_
      refine rw_iconst 89 (v := 0) dX11_plain_89 (by decide) ?_
      refine rn_iast 90 dX11_plain_90 ly_265 rln_265 h (fun μ9 h => ?_)
      refine rw_iinc 91 [(0, .ref 243), (1, .int v1), (2, .int (v2 + 1))] dX11_plain_91 2 rfl rfl (by decide) rfl ?_
      refine rw_goto 94 64 dX11_plain_94 (by decide) ?_
      exact ih (v2 + 1) μ9 h
set_option maxRecDepth 100000 in
theorem wX11_plain (a1 : Int32) (μ : Mem) {res : Mem} (h : fX11_plain a1 μ = some res) : Ct mX11_plain 1 NF NF [.ref 243, .int a1] (μ, Rf0, NF) (QN none res Rf0 NF) := by
  unfold fX11_plain at h
  show RW mX11_plain 1 NF NF 0 [(0, .ref 243), (1, .int a1)] [] (μ, Rf0, NF) (QN none res Rf0 NF)
  refine rw_aload_n 0 dX11_plain_0 0 rfl ?_
  refine rw_getR 1 11 23 kc11 dX11_plain_1 ly_243 rln_243 fX11_46 rfl rf_243_23 ?_
  refine rw_iload_n 4 dX11_plain_4 1 rfl ?_
  refine rw_iconst 5 (v := 0) dX11_plain_5 (by decide) ?_
  refine rn_iast 6 dX11_plain_6 ly_253 rln_253 h (fun μ1 h => ?_)
  refine rw_aload_n 7 dX11_plain_7 0 rfl ?_
  refine rw_getR 8 11 26 kc11 dX11_plain_8 ly_243 rln_243 fX11_55 rfl rf_243_26 ?_
  refine rw_iload_n 11 dX11_plain_11 1 rfl ?_
  refine rw_iconst 12 (v := 0) dX11_plain_12 (by decide) ?_
  refine rn_iast 13 dX11_plain_13 ly_256 rln_256 h (fun μ2 h => ?_)
  refine rw_aload_n 14 dX11_plain_14 0 rfl ?_
  refine rw_getR 15 11 31 kc11 dX11_plain_15 ly_243 rln_243 fX11_70 rfl rf_243_31 ?_
  refine rw_iload_n 18 dX11_plain_18 1 rfl ?_
  refine rw_iconst 19 (v := 0) dX11_plain_19 (by decide) ?_
  refine rn_iast 20 dX11_plain_20 ly_261 rln_261 h (fun μ3 h => ?_)
  refine rw_aload_n 21 dX11_plain_21 0 rfl ?_
  refine rw_getR 22 11 32 kc11 dX11_plain_22 ly_243 rln_243 fX11_73 rfl rf_243_32 ?_
  refine rw_iload_n 25 dX11_plain_25 1 rfl ?_
  refine rw_bipush 26 (v := 100) dX11_plain_26 (by decide) ?_
  refine rn_iast 28 dX11_plain_28 ly_262 rln_262 h (fun μ4 h => ?_)
  refine rw_aload_n 29 dX11_plain_29 0 rfl ?_
  refine rw_getR 30 11 33 kc11 dX11_plain_30 ly_243 rln_243 fX11_76 rfl rf_243_33 ?_
  refine rw_iload_n 33 dX11_plain_33 1 rfl ?_
  refine rw_iconst 34 (v := 0) dX11_plain_34 (by decide) ?_
  refine rn_iast 35 dX11_plain_35 ly_263 rln_263 h (fun μ5 h => ?_)
  refine rw_iconst 36 (v := 0) dX11_plain_36 (by decide) ?_
  refine rw_istore_n 37 [(0, .ref 243), (1, .int a1), (2, .int 0)] dX11_plain_37 (by decide) rfl ?_
  refine wX11_plain_38 a1 _ (fun μ7 h => ?_) FU 0 μ5 h
  refine rw_iconst 62 (v := 0) dX11_plain_62 (by decide) ?_
  refine rw_istore_n 63 [(0, .ref 243), (1, .int a1), (2, .int 0)] dX11_plain_63 (by decide) rfl ?_
  refine wX11_plain_64 a1 _ (fun μ10 h => ?_) FU 0 μ7 h
  exact rn_vret 97 dX11_plain_97 rfl h
def fX11_appends (a0 : Int64) (a1 : Int32) (μ : Mem) : Option (Int64) :=
  if a1 = 0 then
    some a0
  else
    some ((27 * a0) + ((a1 - 97) + 1).toInt64)
set_option maxRecDepth 100000 in
theorem wX11_appends (a0 : Int64) (a1 : Int32) (μ : Mem) {res : Int64} (h : fX11_appends a0 a1 μ = some res) : Ct mX11_appends 1 NF NF [.long a0, .int a1] (μ, Rf0, NF) (QN (some (.long res)) μ Rf0 NF) := by
  unfold fX11_appends at h
  show RW mX11_appends 1 NF NF 0 [(0, .long a0), (2, .int a1)] [] (μ, Rf0, NF) (QN (some (.long res)) μ Rf0 NF)
  refine rw_iload_n 0 dX11_appends_0 1 rfl ?_
  refine rn_if_ne 1 8 dX11_appends_1 (by decide) h (fun _ h => ?_) (fun _ h => ?_)
  · refine rw_ldc2 8 dX11_appends_8 lX11_178 ?_
    refine rw_lload_n 11 dX11_appends_11 0 rfl ?_
    refine rw_lmul 12 dX11_appends_12 ?_
    refine rw_iload_n 13 dX11_appends_13 1 rfl ?_
    refine rw_bipush 14 (v := 97) dX11_appends_14 (by decide) ?_
    refine rw_isub 16 dX11_appends_16 ?_
    refine rw_iconst 17 (v := 1) dX11_appends_17 (by decide) ?_
    refine rw_iadd 18 dX11_appends_18 ?_
    refine rw_i2l 19 dX11_appends_19 ?_
    refine rw_ladd 20 dX11_appends_20 ?_
    exact rn_lret 21 dX11_appends_21 rfl h
  · refine rw_lload_n 4 dX11_appends_4 0 rfl ?_
    refine rw_goto 5 21 dX11_appends_5 (by decide) ?_
    exact rn_lret 21 dX11_appends_21 rfl h
def fX11_word (a0 : Int32) (a1 : Int32) (a2 : Int32) (a3 : Int32) (a4 : Int32) (a5 : Int32) (a6 : Int32) (μ : Mem) : Option (Int64) :=
  (fX11_appends 0 a0 μ).bind fun q1 =>
  (fX11_appends q1 a1 μ).bind fun q2 =>
  (fX11_appends q2 a2 μ).bind fun q3 =>
  (fX11_appends q3 a3 μ).bind fun q4 =>
  (fX11_appends q4 a4 μ).bind fun q5 =>
  (fX11_appends q5 a5 μ).bind fun q6 =>
  (fX11_appends q6 a6 μ).bind fun q7 =>
  some q7
set_option maxRecDepth 100000 in
theorem wX11_word (a0 : Int32) (a1 : Int32) (a2 : Int32) (a3 : Int32) (a4 : Int32) (a5 : Int32) (a6 : Int32) (μ : Mem) {res : Int64} (h : fX11_word a0 a1 a2 a3 a4 a5 a6 μ = some res) : Ct mX11_word 2 NF NF [.int a0, .int a1, .int a2, .int a3, .int a4, .int a5, .int a6] (μ, Rf0, NF) (QN (some (.long res)) μ Rf0 NF) := by
  unfold fX11_word at h
  show RW mX11_word 2 NF NF 0 [(0, .int a0), (1, .int a1), (2, .int a2), (3, .int a3), (4, .int a4), (5, .int a5), (6, .int a6)] [] (μ, Rf0, NF) (QN (some (.long res)) μ Rf0 NF)
  refine rw_lconst 0 (v := 0) dX11_word_0 (by decide) ?_
  refine rw_iload_n 1 dX11_word_1 0 rfl ?_
  refine rn_cSpl 2 [.long 0, .int a0] dX11_word_2 caX11_appends lX11_180 stX11_appends rfl naX11_appends (Nat.le_of_ble_eq_true rfl) (Nat.le_of_ble_eq_true rfl) (by decide) (fun _ hq => wX11_appends 0 a0 μ hq) h (fun q1 h => ?_)
  refine rw_iload_n 5 dX11_word_5 1 rfl ?_
  refine rn_cSpl 6 [.long q1, .int a1] dX11_word_6 caX11_appends lX11_180 stX11_appends rfl naX11_appends (Nat.le_of_ble_eq_true rfl) (Nat.le_of_ble_eq_true rfl) (by decide) (fun _ hq => wX11_appends q1 a1 μ hq) h (fun q2 h => ?_)
  refine rw_iload_n 9 dX11_word_9 2 rfl ?_
  refine rn_cSpl 10 [.long q2, .int a2] dX11_word_10 caX11_appends lX11_180 stX11_appends rfl naX11_appends (Nat.le_of_ble_eq_true rfl) (Nat.le_of_ble_eq_true rfl) (by decide) (fun _ hq => wX11_appends q2 a2 μ hq) h (fun q3 h => ?_)
  refine rw_iload_n 13 dX11_word_13 3 rfl ?_
  refine rn_cSpl 14 [.long q3, .int a3] dX11_word_14 caX11_appends lX11_180 stX11_appends rfl naX11_appends (Nat.le_of_ble_eq_true rfl) (Nat.le_of_ble_eq_true rfl) (by decide) (fun _ hq => wX11_appends q3 a3 μ hq) h (fun q4 h => ?_)
  refine rw_iload 17 dX11_word_17 4 rfl ?_
  refine rn_cSpl 19 [.long q4, .int a4] dX11_word_19 caX11_appends lX11_180 stX11_appends rfl naX11_appends (Nat.le_of_ble_eq_true rfl) (Nat.le_of_ble_eq_true rfl) (by decide) (fun _ hq => wX11_appends q4 a4 μ hq) h (fun q5 h => ?_)
  refine rw_iload 22 dX11_word_22 5 rfl ?_
  refine rn_cSpl 24 [.long q5, .int a5] dX11_word_24 caX11_appends lX11_180 stX11_appends rfl naX11_appends (Nat.le_of_ble_eq_true rfl) (Nat.le_of_ble_eq_true rfl) (by decide) (fun _ hq => wX11_appends q5 a5 μ hq) h (fun q6 h => ?_)
  refine rw_iload 27 dX11_word_27 6 rfl ?_
  refine rn_cSpl 29 [.long q6, .int a6] dX11_word_29 caX11_appends lX11_180 stX11_appends rfl naX11_appends (Nat.le_of_ble_eq_true rfl) (Nat.le_of_ble_eq_true rfl) (by decide) (fun _ hq => wX11_appends q6 a6 μ hq) h (fun q7 h => ?_)
  exact rn_lret 32 dX11_word_32 rfl h
def fX11_begins_2     (K : Mem → Option (Mem)) : Nat → Int32 → Mem → Option (Mem)
  | 0, _, _ => none
  | n + 1, v1, μ =>
    if v1 < 31 then
      if inb v1 31 then nm (wI μ 277 v1.toNatClampNeg 0) fun μ1 =>
      fX11_begins_2 K n (v1 + 1) μ1
      else none
    else
      K μ
def fX11_begins_23     (K : Mem → Option (Mem)) : Nat → Int32 → Mem → Option (Mem)
  | 0, _, _ => none
  | n + 1, v1, μ =>
    if v1 < 7 then
      if inb v1 31 then nm (wI μ 277 v1.toNatClampNeg (-2)) fun μ3 =>
      fX11_begins_23 K n (v1 + 1) μ3
      else none
    else
      K μ
def fX11_begins  (μ : Mem) : Option (Mem) :=
  fX11_begins_2  (fun μ2 =>
      fX11_begins_23  (fun μ4 =>
          if inb (μ4.1 243 18) 2 then
          nm (wI μ4 243 52 (μ4.1 263 (μ4.1 243 18).toNatClampNeg)) fun μ5 =>
          nm (wI μ5 243 53 0) fun μ6 =>
          some μ6
          else none
      ) FU 0 μ2
  ) FU 0 μ
set_option maxRecDepth 100000 in
theorem wX11_begins_2     (K : Mem → Option (Mem)) {res : Mem} (hK : ∀  (μ : Mem), K μ = some res → RW mX11_begins 1 NF NF 21 [(0, .ref 243)] [] (μ, Rf0, NF) (QN none res Rf0 NF)) : ∀ (n9 : Nat) (v1 : Int32) (μ : Mem), fX11_begins_2 K n9 v1 μ = some res → RW mX11_begins 1 NF NF 2 [(0, .ref 243), (1, .int v1)] [] (μ, Rf0, NF) (QN none res Rf0 NF) := by
  intro n9
  induction n9 with
  | zero => intro _ _ h; cases h
  | succ n ih =>
    intro v1 μ h
    unfold fX11_begins_2 at h
    refine rw_iload_n 2 dX11_begins_2 1 rfl ?_
    refine rw_bipush 3 (v := 31) dX11_begins_3 (by decide) ?_
    refine rn_icmp_ge 5 21 dX11_begins_5 (by decide) h (fun _ h => ?_) (fun _ h => ?_)
    · refine rw_pick 21 [0] rfl ?_
      exact hK μ h
    · refine rw_aload_n 8 dX11_begins_8 0 rfl ?_
      refine rw_getR 9 11 51 kc11 dX11_begins_9 ly_243 rln_243 fX11_119 rfl rf_243_51 ?_
      refine rw_iload_n 12 dX11_begins_12 1 rfl ?_
      refine rw_iconst 13 (v := 0) dX11_begins_13 (by decide) ?_
      refine rn_iast 14 dX11_begins_14 ly_277 rln_277 h (fun μ1 h => ?_)
      refine rw_iinc 15 [(0, .ref 243), (1, .int (v1 + 1))] dX11_begins_15 1 rfl rfl (by decide) rfl ?_
      refine rw_goto 18 2 dX11_begins_18 (by decide) ?_
      exact ih (v1 + 1) μ1 h
set_option maxRecDepth 100000 in
theorem wX11_begins_23     (K : Mem → Option (Mem)) {res : Mem} (hK : ∀  (μ : Mem), K μ = some res → RW mX11_begins 1 NF NF 43 [(0, .ref 243)] [] (μ, Rf0, NF) (QN none res Rf0 NF)) : ∀ (n9 : Nat) (v1 : Int32) (μ : Mem), fX11_begins_23 K n9 v1 μ = some res → RW mX11_begins 1 NF NF 23 [(0, .ref 243), (1, .int v1)] [] (μ, Rf0, NF) (QN none res Rf0 NF) := by
  intro n9
  induction n9 with
  | zero => intro _ _ h; cases h
  | succ n ih =>
    intro v1 μ h
    unfold fX11_begins_23 at h
    refine rw_iload_n 23 dX11_begins_23 1 rfl ?_
    refine rw_bipush 24 (v := 7) dX11_begins_24 (by decide) ?_
    refine rn_icmp_ge 26 43 dX11_begins_26 (by decide) h (fun _ h => ?_) (fun _ h => ?_)
    · refine rw_pick 43 [0] rfl ?_
      exact hK μ h
    · refine rw_aload_n 29 dX11_begins_29 0 rfl ?_
      refine rw_getR 30 11 51 kc11 dX11_begins_30 ly_243 rln_243 fX11_119 rfl rf_243_51 ?_
      refine rw_iload_n 33 dX11_begins_33 1 rfl ?_
      refine rw_bipush 34 (v := -2) dX11_begins_34 (by decide) ?_
      refine rn_iast 36 dX11_begins_36 ly_277 rln_277 h (fun μ3 h => ?_)
      refine rw_iinc 37 [(0, .ref 243), (1, .int (v1 + 1))] dX11_begins_37 1 rfl rfl (by decide) rfl ?_
      refine rw_goto 40 23 dX11_begins_40 (by decide) ?_
      exact ih (v1 + 1) μ3 h
set_option maxRecDepth 100000 in
theorem wX11_begins  (μ : Mem) {res : Mem} (h : fX11_begins  μ = some res) : Ct mX11_begins 1 NF NF [.ref 243] (μ, Rf0, NF) (QN none res Rf0 NF) := by
  unfold fX11_begins at h
  show RW mX11_begins 1 NF NF 0 [(0, .ref 243)] [] (μ, Rf0, NF) (QN none res Rf0 NF)
  refine rw_iconst 0 (v := 0) dX11_begins_0 (by decide) ?_
  refine rw_istore_n 1 [(0, .ref 243), (1, .int 0)] dX11_begins_1 (by decide) rfl ?_
  refine wX11_begins_2 _ (fun μ2 h => ?_) FU 0 μ h
  refine rw_iconst 21 (v := 0) dX11_begins_21 (by decide) ?_
  refine rw_istore_n 22 [(0, .ref 243), (1, .int 0)] dX11_begins_22 (by decide) rfl ?_
  refine wX11_begins_23 _ (fun μ4 h => ?_) FU 0 μ2 h
  refine rw_aload_n 43 dX11_begins_43 0 rfl ?_
  refine rw_aload_n 44 dX11_begins_44 0 rfl ?_
  refine rw_getR 45 11 33 kc11 dX11_begins_45 ly_243 rln_243 fX11_76 rfl rf_243_33 ?_
  refine rw_aload_n 48 dX11_begins_48 0 rfl ?_
  refine rw_getI 49 11 18 kc11 dX11_begins_49 ly_243 rln_243 fX11_236 rfl ?_
  refine rn_iald 52 dX11_begins_52 ly_263 rln_263 h (fun h => ?_)
  refine rn_putI 53 11 52 kc11 dX11_begins_53 ly_243 rln_243 fX11_320 (fun q hq => by cases hq; rfl) rfl rfl rfl h (fun μ5 h => ?_)
  refine rw_aload_n 56 dX11_begins_56 0 rfl ?_
  refine rw_iconst 57 (v := 0) dX11_begins_57 (by decide) ?_
  refine rn_putI 58 11 53 kc11 dX11_begins_58 ly_243 rln_243 fX11_323 (fun q hq => by cases hq; rfl) rfl rfl rfl h (fun μ6 h => ?_)
  exact rn_vret 61 dX11_begins_61 rfl h
def fX11_keepsRow_2     (K : Mem → Option (Mem)) : Nat → Int32 → Mem → Option (Mem)
  | 0, _, _ => none
  | n + 1, v1, μ =>
    if v1 < 31 then
      if inb v1 31 then
      if inb v1 31 then nm (wI μ 276 v1.toNatClampNeg (μ.1 277 v1.toNatClampNeg)) fun μ1 =>
      fX11_keepsRow_2 K n (v1 + 1) μ1
      else none
      else none
    else
      K μ
def fX11_keepsRow  (μ : Mem) : Option (Mem) :=
  fX11_keepsRow_2  (fun μ2 =>
      some μ2
  ) FU 0 μ
set_option maxRecDepth 100000 in
theorem wX11_keepsRow_2     (K : Mem → Option (Mem)) {res : Mem} (hK : ∀  (μ : Mem), K μ = some res → RW mX11_keepsRow 1 NF NF 26 [] [] (μ, Rf0, NF) (QN none res Rf0 NF)) : ∀ (n9 : Nat) (v1 : Int32) (μ : Mem), fX11_keepsRow_2 K n9 v1 μ = some res → RW mX11_keepsRow 1 NF NF 2 [(0, .ref 243), (1, .int v1)] [] (μ, Rf0, NF) (QN none res Rf0 NF) := by
  intro n9
  induction n9 with
  | zero => intro _ _ h; cases h
  | succ n ih =>
    intro v1 μ h
    unfold fX11_keepsRow_2 at h
    refine rw_iload_n 2 dX11_keepsRow_2 1 rfl ?_
    refine rw_bipush 3 (v := 31) dX11_keepsRow_3 (by decide) ?_
    refine rn_icmp_ge 5 26 dX11_keepsRow_5 (by decide) h (fun _ h => ?_) (fun _ h => ?_)
    · refine rw_pick 26 [] rfl ?_
      exact hK μ h
    · refine rw_aload_n 8 dX11_keepsRow_8 0 rfl ?_
      refine rw_getR 9 11 50 kc11 dX11_keepsRow_9 ly_243 rln_243 fX11_116 rfl rf_243_50 ?_
      refine rw_iload_n 12 dX11_keepsRow_12 1 rfl ?_
      refine rw_aload_n 13 dX11_keepsRow_13 0 rfl ?_
      refine rw_getR 14 11 51 kc11 dX11_keepsRow_14 ly_243 rln_243 fX11_119 rfl rf_243_51 ?_
      refine rw_iload_n 17 dX11_keepsRow_17 1 rfl ?_
      refine rn_iald 18 dX11_keepsRow_18 ly_277 rln_277 h (fun h => ?_)
      refine rn_iast 19 dX11_keepsRow_19 ly_276 rln_276 h (fun μ1 h => ?_)
      refine rw_iinc 20 [(0, .ref 243), (1, .int (v1 + 1))] dX11_keepsRow_20 1 rfl rfl (by decide) rfl ?_
      refine rw_goto 23 2 dX11_keepsRow_23 (by decide) ?_
      exact ih (v1 + 1) μ1 h
set_option maxRecDepth 100000 in
theorem wX11_keepsRow  (μ : Mem) {res : Mem} (h : fX11_keepsRow  μ = some res) : Ct mX11_keepsRow 1 NF NF [.ref 243] (μ, Rf0, NF) (QN none res Rf0 NF) := by
  unfold fX11_keepsRow at h
  show RW mX11_keepsRow 1 NF NF 0 [(0, .ref 243)] [] (μ, Rf0, NF) (QN none res Rf0 NF)
  refine rw_iconst 0 (v := 0) dX11_keepsRow_0 (by decide) ?_
  refine rw_istore_n 1 [(0, .ref 243), (1, .int 0)] dX11_keepsRow_1 (by decide) rfl ?_
  refine wX11_keepsRow_2 _ (fun μ2 h => ?_) FU 0 μ h
  exact rn_vret 26 dX11_keepsRow_26 rfl h
def fX11_put_3   (v1 : Int32)  (K : Mem → Option (Mem)) : Nat → Int32 → Mem → Option (Mem)
  | 0, _, _ => none
  | n + 1, v2, μ =>
    if v2 < 0 then
      K μ
    else
      if inb (μ.1 243 2) 2000 then nm (wI μ 244 (μ.1 243 2).toNatClampNeg (v1 >>> (v2 &&& 31)).toInt8.toInt32.toInt8.toInt32) fun μ1 =>
      nm (wI μ1 243 2 ((μ1.1 243 2) + 1)) fun μ2 =>
      fX11_put_3 v1 K n (v2 + (-8)) μ2
      else none
def fX11_put (a1 : Int32) (μ : Mem) : Option (Mem) :=
  fX11_put_3 a1 (fun μ3 =>
      some μ3
  ) FU 24 μ
set_option maxRecDepth 100000 in
theorem wX11_put_3   (v1 : Int32)  (K : Mem → Option (Mem)) {res : Mem} (hK : ∀  (μ : Mem), K μ = some res → RW mX11_put 1 NF NF 36 [] [] (μ, Rf0, NF) (QN none res Rf0 NF)) : ∀ (n9 : Nat) (v2 : Int32) (μ : Mem), fX11_put_3 v1 K n9 v2 μ = some res → RW mX11_put 1 NF NF 3 [(0, .ref 243), (1, .int v1), (2, .int v2)] [] (μ, Rf0, NF) (QN none res Rf0 NF) := by
  intro n9
  induction n9 with
  | zero => intro _ _ h; cases h
  | succ n ih =>
    intro v2 μ h
    unfold fX11_put_3 at h
    refine rw_iload_n 3 dX11_put_3 2 rfl ?_
    refine rn_if_lt 4 36 dX11_put_4 (by decide) h (fun _ h => ?_) (fun _ h => ?_)
    · refine rw_pick 36 [] rfl ?_
      exact hK μ h
    · refine rw_aload_n 7 dX11_put_7 0 rfl ?_
      refine rw_getR 8 11 1 kc11 dX11_put_8 ly_243 rln_243 fX11_13 rfl rf_243_1 ?_
      refine rw_aload_n 11 dX11_put_11 0 rfl ?_
      refine rw_getI 12 11 2 kc11 dX11_put_12 ly_243 rln_243 fX11_169 rfl ?_
      refine rw_iload_n 15 dX11_put_15 1 rfl ?_
      refine rw_iload_n 16 dX11_put_16 2 rfl ?_
      refine rw_ishr 17 dX11_put_17 ?_
      refine rw_i2b 18 dX11_put_18 ?_
      refine rn_bast 19 dX11_put_19 ly_244 rln_244 h (fun μ1 h => ?_)
      refine rw_aload_n 20 dX11_put_20 0 rfl ?_
      refine rw_dup 21 dX11_put_21 rfl ?_
      refine rw_getI 22 11 2 kc11 dX11_put_22 ly_243 rln_243 fX11_169 rfl ?_
      refine rw_iconst 25 (v := 1) dX11_put_25 (by decide) ?_
      refine rw_iadd 26 dX11_put_26 ?_
      refine rn_putI 27 11 2 kc11 dX11_put_27 ly_243 rln_243 fX11_169 (fun q hq => by cases hq; rfl) rfl rfl rfl h (fun μ2 h => ?_)
      refine rw_iinc 30 [(0, .ref 243), (1, .int v1), (2, .int (v2 + (-8)))] dX11_put_30 2 rfl rfl (by decide) rfl ?_
      refine rw_goto 33 3 dX11_put_33 (by decide) ?_
      exact ih (v2 + (-8)) μ2 h
set_option maxRecDepth 100000 in
theorem wX11_put (a1 : Int32) (μ : Mem) {res : Mem} (h : fX11_put a1 μ = some res) : Ct mX11_put 1 NF NF [.ref 243, .int a1] (μ, Rf0, NF) (QN none res Rf0 NF) := by
  unfold fX11_put at h
  show RW mX11_put 1 NF NF 0 [(0, .ref 243), (1, .int a1)] [] (μ, Rf0, NF) (QN none res Rf0 NF)
  refine rw_bipush 0 (v := 24) dX11_put_0 (by decide) ?_
  refine rw_istore_n 2 [(0, .ref 243), (1, .int a1), (2, .int 24)] dX11_put_2 (by decide) rfl ?_
  refine wX11_put_3 a1 _ (fun μ3 h => ?_) FU 24 μ h
  exact rn_vret 36 dX11_put_36 rfl h
def fX11_feed (a1 : Int32) (a2 : Int32) (a3 : Int32) (a4 : Int32) (a5 : Int32) (μ : Mem) : Option (Int32 × Mem) :=
  if 2000 < ((μ.1 243 2) + 20) then
    some ((-1), μ)
  else
    (fX11_put a1 μ).bind fun q1 =>
    (fX11_put a2 q1).bind fun q2 =>
    (fX11_put a3 q2).bind fun q3 =>
    (fX11_put a4 q3).bind fun q4 =>
    (fX11_put a5 q4).bind fun q5 =>
    some ((q5.1 243 2), q5)
set_option maxRecDepth 100000 in
theorem wX11_feed (a1 : Int32) (a2 : Int32) (a3 : Int32) (a4 : Int32) (a5 : Int32) (μ : Mem) {res : Int32 × Mem} (h : fX11_feed a1 a2 a3 a4 a5 μ = some res) : Ct mX11_feed 2 NF NF [.ref 243, .int a1, .int a2, .int a3, .int a4, .int a5] (μ, Rf0, NF) (QN (some (.int res.1)) res.2 Rf0 NF) := by
  unfold fX11_feed at h
  show RW mX11_feed 2 NF NF 0 [(0, .ref 243), (1, .int a1), (2, .int a2), (3, .int a3), (4, .int a4), (5, .int a5)] [] (μ, Rf0, NF) (QN (some (.int res.1)) res.2 Rf0 NF)
  refine rw_aload_n 0 dX11_feed_0 0 rfl ?_
  refine rw_getI 1 11 2 kc11 dX11_feed_1 ly_243 rln_243 fX11_169 rfl ?_
  refine rw_bipush 4 (v := 20) dX11_feed_4 (by decide) ?_
  refine rw_iadd 6 dX11_feed_6 ?_
  refine rw_sipush 7 (v := 2000) dX11_feed_7 (by decide) ?_
  refine rn_icmp_le 10 15 dX11_feed_10 (by decide) h (fun _ h => ?_) (fun _ h => ?_)
  · refine rw_aload_n 15 dX11_feed_15 0 rfl ?_
    refine rw_iload_n 16 dX11_feed_16 1 rfl ?_
    refine rn_cVmv 17 11 [.int a1] dX11_feed_17 caX11_put lX11_172 inX11_put slX11_put rfl ly_243 ⟨_, rfl, rfl⟩ rln_243 naX11_put (Nat.le_of_ble_eq_true rfl) (Nat.le_of_ble_eq_true rfl) (by decide) (fun _ hq => wX11_put a1 μ hq) h (fun q1 h => ?_)
    refine rw_aload_n 20 dX11_feed_20 0 rfl ?_
    refine rw_iload_n 21 dX11_feed_21 2 rfl ?_
    refine rn_cVmv 22 11 [.int a2] dX11_feed_22 caX11_put lX11_172 inX11_put slX11_put rfl ly_243 ⟨_, rfl, rfl⟩ rln_243 naX11_put (Nat.le_of_ble_eq_true rfl) (Nat.le_of_ble_eq_true rfl) (by decide) (fun _ hq => wX11_put a2 q1 hq) h (fun q2 h => ?_)
    refine rw_aload_n 25 dX11_feed_25 0 rfl ?_
    refine rw_iload_n 26 dX11_feed_26 3 rfl ?_
    refine rn_cVmv 27 11 [.int a3] dX11_feed_27 caX11_put lX11_172 inX11_put slX11_put rfl ly_243 ⟨_, rfl, rfl⟩ rln_243 naX11_put (Nat.le_of_ble_eq_true rfl) (Nat.le_of_ble_eq_true rfl) (by decide) (fun _ hq => wX11_put a3 q2 hq) h (fun q3 h => ?_)
    refine rw_aload_n 30 dX11_feed_30 0 rfl ?_
    refine rw_iload 31 dX11_feed_31 4 rfl ?_
    refine rn_cVmv 33 11 [.int a4] dX11_feed_33 caX11_put lX11_172 inX11_put slX11_put rfl ly_243 ⟨_, rfl, rfl⟩ rln_243 naX11_put (Nat.le_of_ble_eq_true rfl) (Nat.le_of_ble_eq_true rfl) (by decide) (fun _ hq => wX11_put a4 q3 hq) h (fun q4 h => ?_)
    refine rw_aload_n 36 dX11_feed_36 0 rfl ?_
    refine rw_iload 37 dX11_feed_37 5 rfl ?_
    refine rn_cVmv 39 11 [.int a5] dX11_feed_39 caX11_put lX11_172 inX11_put slX11_put rfl ly_243 ⟨_, rfl, rfl⟩ rln_243 naX11_put (Nat.le_of_ble_eq_true rfl) (Nat.le_of_ble_eq_true rfl) (by decide) (fun _ hq => wX11_put a5 q4 hq) h (fun q5 h => ?_)
    refine rw_aload_n 42 dX11_feed_42 0 rfl ?_
    refine rw_getI 43 11 2 kc11 dX11_feed_43 ly_243 rln_243 fX11_169 rfl ?_
    exact rn_iret2 46 dX11_feed_46 rfl h
  · refine rw_iconst 13 (v := -1) dX11_feed_13 (by decide) ?_
    exact rn_iret2 14 dX11_feed_14 rfl h
def fX11_back (a1 : Int32) (μ : Mem) : Option (Int32 × Mem) :=
  if a1 < 0 then
    some ((-1), μ)
  else
    if (μ.1 243 2) < a1 then
      some ((-1), μ)
    else
      nm (wI μ 243 2 ((μ.1 243 2) - a1)) fun μ1 =>
      some ((μ1.1 243 2), μ1)
set_option maxRecDepth 100000 in
theorem wX11_back (a1 : Int32) (μ : Mem) {res : Int32 × Mem} (h : fX11_back a1 μ = some res) : Ct mX11_back 1 NF NF [.ref 243, .int a1] (μ, Rf0, NF) (QN (some (.int res.1)) res.2 Rf0 NF) := by
  unfold fX11_back at h
  show RW mX11_back 1 NF NF 0 [(0, .ref 243), (1, .int a1)] [] (μ, Rf0, NF) (QN (some (.int res.1)) res.2 Rf0 NF)
  refine rw_iload_n 0 dX11_back_0 1 rfl ?_
  refine rn_if_lt 1 12 dX11_back_1 (by decide) h (fun _ h => ?_) (fun _ h => ?_)
  · refine rw_iconst 12 (v := -1) dX11_back_12 (by decide) ?_
    exact rn_iret2 13 dX11_back_13 rfl h
  · refine rw_iload_n 4 dX11_back_4 1 rfl ?_
    refine rw_aload_n 5 dX11_back_5 0 rfl ?_
    refine rw_getI 6 11 2 kc11 dX11_back_6 ly_243 rln_243 fX11_169 rfl ?_
    refine rn_icmp_le 9 14 dX11_back_9 (by decide) h (fun _ h => ?_) (fun _ h => ?_)
    · refine rw_aload_n 14 dX11_back_14 0 rfl ?_
      refine rw_dup 15 dX11_back_15 rfl ?_
      refine rw_getI 16 11 2 kc11 dX11_back_16 ly_243 rln_243 fX11_169 rfl ?_
      refine rw_iload_n 19 dX11_back_19 1 rfl ?_
      refine rw_isub 20 dX11_back_20 ?_
      refine rn_putI 21 11 2 kc11 dX11_back_21 ly_243 rln_243 fX11_169 (fun q hq => by cases hq; rfl) rfl rfl rfl h (fun μ1 h => ?_)
      refine rw_aload_n 24 dX11_back_24 0 rfl ?_
      refine rw_getI 25 11 2 kc11 dX11_back_25 ly_243 rln_243 fX11_169 rfl ?_
      exact rn_iret2 28 dX11_back_28 rfl h
    · refine rw_iconst 12 (v := -1) dX11_back_12 (by decide) ?_
      exact rn_iret2 13 dX11_back_13 rfl h
def fX11_byteAt (a1 : Int32) (μ : Mem) : Option (Int32) :=
  if a1 < (μ.1 243 4) then
    if inb a1 2000 then
    some ((μ.1 245 a1.toNatClampNeg) &&& 255)
    else none
  else
    some 0
set_option maxRecDepth 100000 in
theorem wX11_byteAt (a1 : Int32) (μ : Mem) {res : Int32} (h : fX11_byteAt a1 μ = some res) : Ct mX11_byteAt 1 NF NF [.ref 243, .int a1] (μ, Rf0, NF) (QN (some (.int res)) μ Rf0 NF) := by
  unfold fX11_byteAt at h
  show RW mX11_byteAt 1 NF NF 0 [(0, .ref 243), (1, .int a1)] [] (μ, Rf0, NF) (QN (some (.int res)) μ Rf0 NF)
  refine rw_iload_n 0 dX11_byteAt_0 1 rfl ?_
  refine rw_aload_n 1 dX11_byteAt_1 0 rfl ?_
  refine rw_getI 2 11 4 kc11 dX11_byteAt_2 ly_243 rln_243 fX11_175 rfl ?_
  refine rn_icmp_ge 5 21 dX11_byteAt_5 (by decide) h (fun _ h => ?_) (fun _ h => ?_)
  · refine rw_iconst 21 (v := 0) dX11_byteAt_21 (by decide) ?_
    exact rn_iret 22 dX11_byteAt_22 rfl h
  · refine rw_aload_n 8 dX11_byteAt_8 0 rfl ?_
    refine rw_getR 9 11 3 kc11 dX11_byteAt_9 ly_243 rln_243 fX11_17 rfl rf_243_3 ?_
    refine rw_iload_n 12 dX11_byteAt_12 1 rfl ?_
    refine rn_bald 13 dX11_byteAt_13 ly_245 rln_245 h (fun h => ?_)
    refine rw_sipush 14 (v := 255) dX11_byteAt_14 (by decide) ?_
    refine rw_iand 17 dX11_byteAt_17 ?_
    refine rw_goto 18 22 dX11_byteAt_18 (by decide) ?_
    exact rn_iret 22 dX11_byteAt_22 rfl h
def fX11_isDigit (a0 : Int32) (μ : Mem) : Option (Bool) :=
  if a0 < 48 then
    some false
  else
    if 57 < a0 then
      some false
    else
      some true
set_option maxRecDepth 100000 in
theorem wX11_isDigit (a0 : Int32) (μ : Mem) {res : Bool} (h : fX11_isDigit a0 μ = some res) : Ct mX11_isDigit 1 NF NF [.int a0] (μ, Rf0, NF) (QN (some (.int (b2i res))) μ Rf0 NF) := by
  unfold fX11_isDigit at h
  show RW mX11_isDigit 1 NF NF 0 [(0, .int a0)] [] (μ, Rf0, NF) (QN (some (.int (b2i res))) μ Rf0 NF)
  refine rw_iload_n 0 dX11_isDigit_0 0 rfl ?_
  refine rw_bipush 1 (v := 48) dX11_isDigit_1 (by decide) ?_
  refine rn_icmp_lt 3 16 dX11_isDigit_3 (by decide) h (fun _ h => ?_) (fun _ h => ?_)
  · refine rw_iconst 16 (v := 0) dX11_isDigit_16 (by decide) ?_
    exact rn_zret 17 (v := false) dX11_isDigit_17 rfl h
  · refine rw_iload_n 6 dX11_isDigit_6 0 rfl ?_
    refine rw_bipush 7 (v := 57) dX11_isDigit_7 (by decide) ?_
    refine rn_icmp_gt 9 16 dX11_isDigit_9 (by decide) h (fun _ h => ?_) (fun _ h => ?_)
    · refine rw_iconst 16 (v := 0) dX11_isDigit_16 (by decide) ?_
      exact rn_zret 17 (v := false) dX11_isDigit_17 rfl h
    · refine rw_iconst 12 (v := 1) dX11_isDigit_12 (by decide) ?_
      refine rw_goto 13 17 dX11_isDigit_13 (by decide) ?_
      exact rn_zret 17 (v := true) dX11_isDigit_17 rfl h
def fX11_isLetter (a0 : Int32) (μ : Mem) : Option (Bool) :=
  if a0 < 97 then
    some false
  else
    if 122 < a0 then
      some false
    else
      some true
set_option maxRecDepth 100000 in
theorem wX11_isLetter (a0 : Int32) (μ : Mem) {res : Bool} (h : fX11_isLetter a0 μ = some res) : Ct mX11_isLetter 1 NF NF [.int a0] (μ, Rf0, NF) (QN (some (.int (b2i res))) μ Rf0 NF) := by
  unfold fX11_isLetter at h
  show RW mX11_isLetter 1 NF NF 0 [(0, .int a0)] [] (μ, Rf0, NF) (QN (some (.int (b2i res))) μ Rf0 NF)
  refine rw_iload_n 0 dX11_isLetter_0 0 rfl ?_
  refine rw_bipush 1 (v := 97) dX11_isLetter_1 (by decide) ?_
  refine rn_icmp_lt 3 16 dX11_isLetter_3 (by decide) h (fun _ h => ?_) (fun _ h => ?_)
  · refine rw_iconst 16 (v := 0) dX11_isLetter_16 (by decide) ?_
    exact rn_zret 17 (v := false) dX11_isLetter_17 rfl h
  · refine rw_iload_n 6 dX11_isLetter_6 0 rfl ?_
    refine rw_bipush 7 (v := 122) dX11_isLetter_7 (by decide) ?_
    refine rn_icmp_gt 9 16 dX11_isLetter_9 (by decide) h (fun _ h => ?_) (fun _ h => ?_)
    · refine rw_iconst 16 (v := 0) dX11_isLetter_16 (by decide) ?_
      exact rn_zret 17 (v := false) dX11_isLetter_17 rfl h
    · refine rw_iconst 12 (v := 1) dX11_isLetter_12 (by decide) ?_
      refine rw_goto 13 17 dX11_isLetter_13 (by decide) ?_
      exact rn_zret 17 (v := true) dX11_isLetter_17 rfl h
def fX11_token (a1 : Int32) (a2 : Int32) (a3 : Int32) (a4 : Int64) (μ : Mem) : Option (Mem) :=
  if inb (μ.1 243 10) 403 then nm (wI μ 246 (μ.1 243 10).toNatClampNeg a1) fun μ1 =>
  if inb (μ1.1 243 10) 403 then nm (wI μ1 247 (μ1.1 243 10).toNatClampNeg a2) fun μ2 =>
  if inb (μ2.1 243 10) 403 then nm (wI μ2 248 (μ2.1 243 10).toNatClampNeg a3) fun μ3 =>
  if inb (μ3.1 243 10) 403 then nm (wJ μ3 249 (μ3.1 243 10).toNatClampNeg a4) fun μ4 =>
  nm (wI μ4 243 10 ((μ4.1 243 10) + 1)) fun μ5 =>
  some μ5
  else none
  else none
  else none
  else none
set_option maxRecDepth 100000 in
theorem wX11_token (a1 : Int32) (a2 : Int32) (a3 : Int32) (a4 : Int64) (μ : Mem) {res : Mem} (h : fX11_token a1 a2 a3 a4 μ = some res) : Ct mX11_token 1 NF NF [.ref 243, .int a1, .int a2, .int a3, .long a4] (μ, Rf0, NF) (QN none res Rf0 NF) := by
  unfold fX11_token at h
  show RW mX11_token 1 NF NF 0 [(0, .ref 243), (1, .int a1), (2, .int a2), (3, .int a3), (4, .long a4)] [] (μ, Rf0, NF) (QN none res Rf0 NF)
  refine rw_aload_n 0 dX11_token_0 0 rfl ?_
  refine rw_getR 1 11 5 kc11 dX11_token_1 ly_243 rln_243 fX11_20 rfl rf_243_5 ?_
  refine rw_aload_n 4 dX11_token_4 0 rfl ?_
  refine rw_getI 5 11 10 kc11 dX11_token_5 ly_243 rln_243 fX11_184 rfl ?_
  refine rw_iload_n 8 dX11_token_8 1 rfl ?_
  refine rn_iast 9 dX11_token_9 ly_246 rln_246 h (fun μ1 h => ?_)
  refine rw_aload_n 10 dX11_token_10 0 rfl ?_
  refine rw_getR 11 11 6 kc11 dX11_token_11 ly_243 rln_243 fX11_24 rfl rf_243_6 ?_
  refine rw_aload_n 14 dX11_token_14 0 rfl ?_
  refine rw_getI 15 11 10 kc11 dX11_token_15 ly_243 rln_243 fX11_184 rfl ?_
  refine rw_iload_n 18 dX11_token_18 2 rfl ?_
  refine rn_iast 19 dX11_token_19 ly_247 rln_247 h (fun μ2 h => ?_)
  refine rw_aload_n 20 dX11_token_20 0 rfl ?_
  refine rw_getR 21 11 7 kc11 dX11_token_21 ly_243 rln_243 fX11_27 rfl rf_243_7 ?_
  refine rw_aload_n 24 dX11_token_24 0 rfl ?_
  refine rw_getI 25 11 10 kc11 dX11_token_25 ly_243 rln_243 fX11_184 rfl ?_
  refine rw_iload_n 28 dX11_token_28 3 rfl ?_
  refine rn_iast 29 dX11_token_29 ly_248 rln_248 h (fun μ3 h => ?_)
  refine rw_aload_n 30 dX11_token_30 0 rfl ?_
  refine rw_getR 31 11 8 kc11 dX11_token_31 ly_243 rln_243 fX11_30 rfl rf_243_8 ?_
  refine rw_aload_n 34 dX11_token_34 0 rfl ?_
  refine rw_getI 35 11 10 kc11 dX11_token_35 ly_243 rln_243 fX11_184 rfl ?_
  refine rw_lload 38 dX11_token_38 4 rfl ?_
  refine rn_last 40 dX11_token_40 ly_249 rln_249 h (fun μ4 h => ?_)
  refine rw_aload_n 41 dX11_token_41 0 rfl ?_
  refine rw_dup 42 dX11_token_42 rfl ?_
  refine rw_getI 43 11 10 kc11 dX11_token_43 ly_243 rln_243 fX11_184 rfl ?_
  refine rw_iconst 46 (v := 1) dX11_token_46 (by decide) ?_
  refine rw_iadd 47 dX11_token_47 ?_
  refine rn_putI 48 11 10 kc11 dX11_token_48 ly_243 rln_243 fX11_184 (fun q hq => by cases hq; rfl) rfl rfl rfl h (fun μ5 h => ?_)
  exact rn_vret 51 dX11_token_51 rfl h
def fX11_sign_j85    (v1 : Int32) (v2 : Int32) (v4 : Int32) (μ : Mem) : Option (Int32 × Mem) :=
  if v2 = 60 then
    (fX11_token 13 v1 0 0 μ).bind fun q2 =>
    some (1, q2)
  else
    (fX11_token v4 v1 0 0 μ).bind fun q1 =>
    some (1, q1)
def fX11_sign_j55    (v1 : Int32) (v2 : Int32) (v4 : Int32) (μ : Mem) : Option (Int32 × Mem) :=
  if v2 = 45 then
    if v2 = 42 then
      if v2 = 47 then
        fX11_sign_j85 v1 v2 15 μ
      else
        fX11_sign_j85 v1 v2 10 μ
    else
      if v2 = 47 then
        fX11_sign_j85 v1 v2 15 μ
      else
        fX11_sign_j85 v1 v2 9 μ
  else
    if v2 = 42 then
      if v2 = 47 then
        fX11_sign_j85 v1 v2 15 μ
      else
        fX11_sign_j85 v1 v2 10 μ
    else
      if v2 = 47 then
        fX11_sign_j85 v1 v2 15 μ
      else
        fX11_sign_j85 v1 v2 v4 μ
def fX11_sign (a1 : Int32) (a2 : Int32) (a3 : Int32) (μ : Mem) : Option (Int32 × Mem) :=
  if a2 = 59 then
    if a2 = 43 then
      fX11_sign_j55 a1 a2 8 μ
    else
      fX11_sign_j55 a1 a2 4 μ
  else
    if a2 = 61 then
      if a2 = 43 then
        fX11_sign_j55 a1 a2 8 μ
      else
        fX11_sign_j55 a1 a2 5 μ
    else
      if a2 = 40 then
        if a2 = 43 then
          fX11_sign_j55 a1 a2 8 μ
        else
          fX11_sign_j55 a1 a2 6 μ
      else
        if a2 = 41 then
          if a2 = 43 then
            fX11_sign_j55 a1 a2 8 μ
          else
            fX11_sign_j55 a1 a2 7 μ
        else
          if a2 = 43 then
            fX11_sign_j55 a1 a2 8 μ
          else
            fX11_sign_j55 a1 a2 3 μ
set_option maxRecDepth 100000 in
theorem wX11_sign_j85   {res : Int32 × Mem} (v1 : Int32) (v2 : Int32) (v4 : Int32) (μ : Mem)  (h : fX11_sign_j85 v1 v2 v4 μ = some res) : RW mX11_sign 2 NF NF 85 [(0, .ref 243), (1, .int v1), (2, .int v2), (4, .int v4)] [] (μ, Rf0, NF) (QN (some (.int res.1)) res.2 Rf0 NF) := by
  unfold fX11_sign_j85 at h
  refine rw_iload_n 85 dX11_sign_85 2 rfl ?_
  refine rw_bipush 86 (v := 60) dX11_sign_86 (by decide) ?_
  refine rn_icmp_ne 88 95 dX11_sign_88 (by decide) h (fun _ h => ?_) (fun _ h => ?_)
  · refine rw_aload_n 95 dX11_sign_95 0 rfl ?_
    refine rw_iload 96 dX11_sign_96 3 rfl ?_
    refine rw_iload_n 98 dX11_sign_98 1 rfl ?_
    refine rw_iconst 99 (v := 0) dX11_sign_99 (by decide) ?_
    refine rw_lconst 100 (v := 0) dX11_sign_100 (by decide) ?_
    refine rn_cVmv 101 11 [.int v4, .int v1, .int 0, .long 0] dX11_sign_101 caX11_token lX11_191 inX11_token slX11_token rfl ly_243 ⟨_, rfl, rfl⟩ rln_243 naX11_token (Nat.le_of_ble_eq_true rfl) (Nat.le_of_ble_eq_true rfl) (by decide) (fun _ hq => wX11_token v4 v1 0 0 μ hq) h (fun q1 h => ?_)
    refine rw_iconst 104 (v := 1) dX11_sign_104 (by decide) ?_
    exact rn_iret2 105 dX11_sign_105 rfl h
  · refine rw_bipush 91 (v := 13) dX11_sign_91 (by decide) ?_
    refine rw_istore 93 [(0, .ref 243), (1, .int v1), (2, .int v2), (4, .int 13)] dX11_sign_93 (by decide) rfl ?_
    refine rw_aload_n 95 dX11_sign_95 0 rfl ?_
    refine rw_iload 96 dX11_sign_96 3 rfl ?_
    refine rw_iload_n 98 dX11_sign_98 1 rfl ?_
    refine rw_iconst 99 (v := 0) dX11_sign_99 (by decide) ?_
    refine rw_lconst 100 (v := 0) dX11_sign_100 (by decide) ?_
    refine rn_cVmv 101 11 [.int 13, .int v1, .int 0, .long 0] dX11_sign_101 caX11_token lX11_191 inX11_token slX11_token rfl ly_243 ⟨_, rfl, rfl⟩ rln_243 naX11_token (Nat.le_of_ble_eq_true rfl) (Nat.le_of_ble_eq_true rfl) (by decide) (fun _ hq => wX11_token 13 v1 0 0 μ hq) h (fun q2 h => ?_)
    refine rw_iconst 104 (v := 1) dX11_sign_104 (by decide) ?_
    exact rn_iret2 105 dX11_sign_105 rfl h
set_option maxRecDepth 100000 in
theorem wX11_sign_j55   {res : Int32 × Mem} (v1 : Int32) (v2 : Int32) (v4 : Int32) (μ : Mem)  (h : fX11_sign_j55 v1 v2 v4 μ = some res) : RW mX11_sign 2 NF NF 55 [(0, .ref 243), (1, .int v1), (2, .int v2), (4, .int v4)] [] (μ, Rf0, NF) (QN (some (.int res.1)) res.2 Rf0 NF) := by
  unfold fX11_sign_j55 at h
  refine rw_iload_n 55 dX11_sign_55 2 rfl ?_
  refine rw_bipush 56 (v := 45) dX11_sign_56 (by decide) ?_
  refine rn_icmp_ne 58 65 dX11_sign_58 (by decide) h (fun _ h => ?_) (fun _ h => ?_)
  · refine rw_iload_n 65 dX11_sign_65 2 rfl ?_
    refine rw_bipush 66 (v := 42) dX11_sign_66 (by decide) ?_
    refine rn_icmp_ne 68 75 dX11_sign_68 (by decide) h (fun _ h => ?_) (fun _ h => ?_)
    · refine rw_iload_n 75 dX11_sign_75 2 rfl ?_
      refine rw_bipush 76 (v := 47) dX11_sign_76 (by decide) ?_
      refine rn_icmp_ne 78 85 dX11_sign_78 (by decide) h (fun _ h => ?_) (fun _ h => ?_)
      · exact wX11_sign_j85 v1 v2 v4 μ h
      · refine rw_bipush 81 (v := 15) dX11_sign_81 (by decide) ?_
        refine rw_istore 83 [(0, .ref 243), (1, .int v1), (2, .int v2), (4, .int 15)] dX11_sign_83 (by decide) rfl ?_
        exact wX11_sign_j85 v1 v2 15 μ h
    · refine rw_bipush 71 (v := 10) dX11_sign_71 (by decide) ?_
      refine rw_istore 73 [(0, .ref 243), (1, .int v1), (2, .int v2), (4, .int 10)] dX11_sign_73 (by decide) rfl ?_
      refine rw_iload_n 75 dX11_sign_75 2 rfl ?_
      refine rw_bipush 76 (v := 47) dX11_sign_76 (by decide) ?_
      refine rn_icmp_ne 78 85 dX11_sign_78 (by decide) h (fun _ h => ?_) (fun _ h => ?_)
      · exact wX11_sign_j85 v1 v2 10 μ h
      · refine rw_bipush 81 (v := 15) dX11_sign_81 (by decide) ?_
        refine rw_istore 83 [(0, .ref 243), (1, .int v1), (2, .int v2), (4, .int 15)] dX11_sign_83 (by decide) rfl ?_
        exact wX11_sign_j85 v1 v2 15 μ h
  · refine rw_bipush 61 (v := 9) dX11_sign_61 (by decide) ?_
    refine rw_istore 63 [(0, .ref 243), (1, .int v1), (2, .int v2), (4, .int 9)] dX11_sign_63 (by decide) rfl ?_
    refine rw_iload_n 65 dX11_sign_65 2 rfl ?_
    refine rw_bipush 66 (v := 42) dX11_sign_66 (by decide) ?_
    refine rn_icmp_ne 68 75 dX11_sign_68 (by decide) h (fun _ h => ?_) (fun _ h => ?_)
    · refine rw_iload_n 75 dX11_sign_75 2 rfl ?_
      refine rw_bipush 76 (v := 47) dX11_sign_76 (by decide) ?_
      refine rn_icmp_ne 78 85 dX11_sign_78 (by decide) h (fun _ h => ?_) (fun _ h => ?_)
      · exact wX11_sign_j85 v1 v2 9 μ h
      · refine rw_bipush 81 (v := 15) dX11_sign_81 (by decide) ?_
        refine rw_istore 83 [(0, .ref 243), (1, .int v1), (2, .int v2), (4, .int 15)] dX11_sign_83 (by decide) rfl ?_
        exact wX11_sign_j85 v1 v2 15 μ h
    · refine rw_bipush 71 (v := 10) dX11_sign_71 (by decide) ?_
      refine rw_istore 73 [(0, .ref 243), (1, .int v1), (2, .int v2), (4, .int 10)] dX11_sign_73 (by decide) rfl ?_
      refine rw_iload_n 75 dX11_sign_75 2 rfl ?_
      refine rw_bipush 76 (v := 47) dX11_sign_76 (by decide) ?_
      refine rn_icmp_ne 78 85 dX11_sign_78 (by decide) h (fun _ h => ?_) (fun _ h => ?_)
      · exact wX11_sign_j85 v1 v2 10 μ h
      · refine rw_bipush 81 (v := 15) dX11_sign_81 (by decide) ?_
        refine rw_istore 83 [(0, .ref 243), (1, .int v1), (2, .int v2), (4, .int 15)] dX11_sign_83 (by decide) rfl ?_
        exact wX11_sign_j85 v1 v2 15 μ h
set_option maxRecDepth 100000 in
theorem wX11_sign (a1 : Int32) (a2 : Int32) (a3 : Int32) (μ : Mem) {res : Int32 × Mem} (h : fX11_sign a1 a2 a3 μ = some res) : Ct mX11_sign 2 NF NF [.ref 243, .int a1, .int a2, .int a3] (μ, Rf0, NF) (QN (some (.int res.1)) res.2 Rf0 NF) := by
  unfold fX11_sign at h
  show RW mX11_sign 2 NF NF 0 [(0, .ref 243), (1, .int a1), (2, .int a2), (3, .int a3)] [] (μ, Rf0, NF) (QN (some (.int res.1)) res.2 Rf0 NF)
  refine rw_iload_n 0 dX11_sign_0 2 rfl ?_
  refine rw_bipush 1 (v := 59) dX11_sign_1 (by decide) ?_
  refine rn_icmp_ne 3 10 dX11_sign_3 (by decide) h (fun _ h => ?_) (fun _ h => ?_)
  · refine rw_iload_n 10 dX11_sign_10 2 rfl ?_
    refine rw_bipush 11 (v := 61) dX11_sign_11 (by decide) ?_
    refine rn_icmp_ne 13 20 dX11_sign_13 (by decide) h (fun _ h => ?_) (fun _ h => ?_)
    · refine rw_iload_n 20 dX11_sign_20 2 rfl ?_
      refine rw_bipush 21 (v := 40) dX11_sign_21 (by decide) ?_
      refine rn_icmp_ne 23 31 dX11_sign_23 (by decide) h (fun _ h => ?_) (fun _ h => ?_)
      · refine rw_iload_n 31 dX11_sign_31 2 rfl ?_
        refine rw_bipush 32 (v := 41) dX11_sign_32 (by decide) ?_
        refine rn_icmp_ne 34 42 dX11_sign_34 (by decide) h (fun _ h => ?_) (fun _ h => ?_)
        · refine rw_iconst 42 (v := 3) dX11_sign_42 (by decide) ?_
          refine rw_istore 43 [(0, .ref 243), (1, .int a1), (2, .int a2), (3, .int a3), (4, .int 3)] dX11_sign_43 (by decide) rfl ?_
          refine rw_iload_n 45 dX11_sign_45 2 rfl ?_
          refine rw_bipush 46 (v := 43) dX11_sign_46 (by decide) ?_
          refine rn_icmp_ne 48 55 dX11_sign_48 (by decide) h (fun _ h => ?_) (fun _ h => ?_)
          · refine rw_pick 55 [0, 1, 2, 4] rfl ?_
            exact wX11_sign_j55 a1 a2 3 μ h
          · refine rw_bipush 51 (v := 8) dX11_sign_51 (by decide) ?_
            refine rw_istore 53 [(0, .ref 243), (1, .int a1), (2, .int a2), (3, .int a3), (4, .int 8)] dX11_sign_53 (by decide) rfl ?_
            refine rw_pick 55 [0, 1, 2, 4] rfl ?_
            exact wX11_sign_j55 a1 a2 8 μ h
        · refine rw_bipush 37 (v := 7) dX11_sign_37 (by decide) ?_
          refine rw_goto 39 43 dX11_sign_39 (by decide) ?_
          refine rw_istore 43 [(0, .ref 243), (1, .int a1), (2, .int a2), (3, .int a3), (4, .int 7)] dX11_sign_43 (by decide) rfl ?_
          refine rw_iload_n 45 dX11_sign_45 2 rfl ?_
          refine rw_bipush 46 (v := 43) dX11_sign_46 (by decide) ?_
          refine rn_icmp_ne 48 55 dX11_sign_48 (by decide) h (fun _ h => ?_) (fun _ h => ?_)
          · refine rw_pick 55 [0, 1, 2, 4] rfl ?_
            exact wX11_sign_j55 a1 a2 7 μ h
          · refine rw_bipush 51 (v := 8) dX11_sign_51 (by decide) ?_
            refine rw_istore 53 [(0, .ref 243), (1, .int a1), (2, .int a2), (3, .int a3), (4, .int 8)] dX11_sign_53 (by decide) rfl ?_
            refine rw_pick 55 [0, 1, 2, 4] rfl ?_
            exact wX11_sign_j55 a1 a2 8 μ h
      · refine rw_bipush 26 (v := 6) dX11_sign_26 (by decide) ?_
        refine rw_goto 28 43 dX11_sign_28 (by decide) ?_
        refine rw_istore 43 [(0, .ref 243), (1, .int a1), (2, .int a2), (3, .int a3), (4, .int 6)] dX11_sign_43 (by decide) rfl ?_
        refine rw_iload_n 45 dX11_sign_45 2 rfl ?_
        refine rw_bipush 46 (v := 43) dX11_sign_46 (by decide) ?_
        refine rn_icmp_ne 48 55 dX11_sign_48 (by decide) h (fun _ h => ?_) (fun _ h => ?_)
        · refine rw_pick 55 [0, 1, 2, 4] rfl ?_
          exact wX11_sign_j55 a1 a2 6 μ h
        · refine rw_bipush 51 (v := 8) dX11_sign_51 (by decide) ?_
          refine rw_istore 53 [(0, .ref 243), (1, .int a1), (2, .int a2), (3, .int a3), (4, .int 8)] dX11_sign_53 (by decide) rfl ?_
          refine rw_pick 55 [0, 1, 2, 4] rfl ?_
          exact wX11_sign_j55 a1 a2 8 μ h
    · refine rw_iconst 16 (v := 5) dX11_sign_16 (by decide) ?_
      refine rw_goto 17 43 dX11_sign_17 (by decide) ?_
      refine rw_istore 43 [(0, .ref 243), (1, .int a1), (2, .int a2), (3, .int a3), (4, .int 5)] dX11_sign_43 (by decide) rfl ?_
      refine rw_iload_n 45 dX11_sign_45 2 rfl ?_
      refine rw_bipush 46 (v := 43) dX11_sign_46 (by decide) ?_
      refine rn_icmp_ne 48 55 dX11_sign_48 (by decide) h (fun _ h => ?_) (fun _ h => ?_)
      · refine rw_pick 55 [0, 1, 2, 4] rfl ?_
        exact wX11_sign_j55 a1 a2 5 μ h
      · refine rw_bipush 51 (v := 8) dX11_sign_51 (by decide) ?_
        refine rw_istore 53 [(0, .ref 243), (1, .int a1), (2, .int a2), (3, .int a3), (4, .int 8)] dX11_sign_53 (by decide) rfl ?_
        refine rw_pick 55 [0, 1, 2, 4] rfl ?_
        exact wX11_sign_j55 a1 a2 8 μ h
  · refine rw_iconst 6 (v := 4) dX11_sign_6 (by decide) ?_
    refine rw_goto 7 43 dX11_sign_7 (by decide) ?_
    refine rw_istore 43 [(0, .ref 243), (1, .int a1), (2, .int a2), (3, .int a3), (4, .int 4)] dX11_sign_43 (by decide) rfl ?_
    refine rw_iload_n 45 dX11_sign_45 2 rfl ?_
    refine rw_bipush 46 (v := 43) dX11_sign_46 (by decide) ?_
    refine rn_icmp_ne 48 55 dX11_sign_48 (by decide) h (fun _ h => ?_) (fun _ h => ?_)
    · refine rw_pick 55 [0, 1, 2, 4] rfl ?_
      exact wX11_sign_j55 a1 a2 4 μ h
    · refine rw_bipush 51 (v := 8) dX11_sign_51 (by decide) ?_
      refine rw_istore 53 [(0, .ref 243), (1, .int a1), (2, .int a2), (3, .int a3), (4, .int 8)] dX11_sign_53 (by decide) rfl ?_
      refine rw_pick 55 [0, 1, 2, 4] rfl ?_
      exact wX11_sign_j55 a1 a2 8 μ h
