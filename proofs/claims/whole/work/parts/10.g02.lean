def fX4_kind  (μ : Mem) : Option (Int32) :=
  if inb (μ.1 3 3) 402 then
  some (μ.1 5 (μ.1 3 3).toNatClampNeg)
  else none
set_option maxRecDepth 100000 in
theorem wX4_kind  (μ : Mem) {res : Int32} (h : fX4_kind  μ = some res) : Ct mX4_kind 1 NF NF [.ref 3] (μ, Rf0, NF) (QN (some (.int res)) μ Rf0 NF) := by
  unfold fX4_kind at h
  show RW mX4_kind 1 NF NF 0 [(0, .ref 3)] [] (μ, Rf0, NF) (QN (some (.int res)) μ Rf0 NF)
  refine rw_aload_n 0 dX4_kind_0 0 rfl ?_
  refine rw_getR 1 4 2 kc4 dX4_kind_1 ly_3 rln_3 fX4_21 rfl rf_3_2 ?_
  refine rw_getR 4 8 0 kc8 dX4_kind_4 ly_4 rln_4 fX4_58 rfl rf_4_0 ?_
  refine rw_aload_n 7 dX4_kind_7 0 rfl ?_
  refine rw_getI 8 4 3 kc4 dX4_kind_8 ly_3 rln_3 fX4_25 rfl ?_
  refine rn_iald 11 dX4_kind_11 ly_5 rln_5 h (fun h => ?_)
  exact rn_iret 12 dX4_kind_12 rfl h
def fX4_fail (a1 : Int32) (μ : Mem) : Option (Bool × Mem) :=
  nm (wI μ 3 0 a1) fun μ1 =>
  some (false, μ1)
set_option maxRecDepth 100000 in
theorem wX4_fail (a1 : Int32) (μ : Mem) {res : Bool × Mem} (h : fX4_fail a1 μ = some res) : Ct mX4_fail 1 NF NF [.ref 3, .int a1] (μ, Rf0, NF) (QN (some (.int (b2i res.1))) res.2 Rf0 NF) := by
  unfold fX4_fail at h
  show RW mX4_fail 1 NF NF 0 [(0, .ref 3), (1, .int a1)] [] (μ, Rf0, NF) (QN (some (.int (b2i res.1))) res.2 Rf0 NF)
  refine rw_aload_n 0 dX4_fail_0 0 rfl ?_
  refine rw_iload_n 1 dX4_fail_1 1 rfl ?_
  refine rn_putI 2 4 0 kc4 dX4_fail_2 ly_3 rln_3 fX4_9 (fun q hq => by cases hq; rfl) rfl rfl rfl h (fun μ1 h => ?_)
  refine rw_iconst 5 (v := 0) dX4_fail_5 (by decide) ?_
  exact rn_zret2 6 (v := false) dX4_fail_6 rfl h
def fX4_take_j21    (s0 : Int32) (μ : Mem) : Option (Bool × Mem) :=
  if s0 = 0 then
    if s0 = 0 then
      nm (wI μ 3 0 1) fun μ1 =>
      some (false, μ1)
    else
      nm (wI μ 3 0 2) fun μ2 =>
      some (false, μ2)
  else
    if (μ.1 3 3) < 400 then
      nm (wI μ 3 3 ((μ.1 3 3) + 1)) fun μ3 =>
      some (true, μ3)
    else
      if s0 = 0 then
        nm (wI μ 3 0 1) fun μ4 =>
        some (false, μ4)
      else
        nm (wI μ 3 0 2) fun μ5 =>
        some (false, μ5)
def fX4_take (a1 : Int32) (μ : Mem) : Option (Bool × Mem) :=
  if inb (μ.1 3 3) 402 then
  if (μ.1 5 (μ.1 3 3).toNatClampNeg) = a1 then
    fX4_take_j21 1 μ
  else
    fX4_take_j21 0 μ
  else none
set_option maxRecDepth 100000 in
theorem wX4_take_j21   {res : Bool × Mem} (s0 : Int32) (μ : Mem)  (h : fX4_take_j21 s0 μ = some res) : RW mX4_take 1 NF NF 21 [(0, .ref 3)] [.int s0] (μ, Rf0, NF) (QN (some (.int (b2i res.1))) res.2 Rf0 NF) := by
  unfold fX4_take_j21 at h
  refine rw_istore_n 21 [(0, .ref 3), (2, .int s0)] dX4_take_21 (by decide) rfl ?_
  refine rw_iload_n 22 dX4_take_22 1 rfl ?_
  refine rn_if_eq 23 36 dX4_take_23 (by decide) h (fun _ h => ?_) (fun _ h => ?_)
  · refine rw_aload_n 36 dX4_take_36 0 rfl ?_
    refine rw_iload_n 37 dX4_take_37 1 rfl ?_
    refine rn_if_eq 38 45 dX4_take_38 (by decide) h (fun _ h => ?_) (fun _ h => ?_)
    · refine rw_iconst 45 (v := 1) dX4_take_45 (by decide) ?_
      refine rn_putI 46 4 0 kc4 dX4_take_46 ly_3 rln_3 fX4_9 (fun q hq => by cases hq; rfl) rfl rfl rfl h (fun μ1 h => ?_)
      refine rw_iconst 49 (v := 0) dX4_take_49 (by decide) ?_
      exact rn_zret2 50 (v := false) dX4_take_50 rfl h
    · refine rw_iconst 41 (v := 2) dX4_take_41 (by decide) ?_
      refine rw_goto 42 46 dX4_take_42 (by decide) ?_
      refine rn_putI 46 4 0 kc4 dX4_take_46 ly_3 rln_3 fX4_9 (fun q hq => by cases hq; rfl) rfl rfl rfl h (fun μ2 h => ?_)
      refine rw_iconst 49 (v := 0) dX4_take_49 (by decide) ?_
      exact rn_zret2 50 (v := false) dX4_take_50 rfl h
  · refine rw_aload_n 26 dX4_take_26 0 rfl ?_
    refine rw_getI 27 4 3 kc4 dX4_take_27 ly_3 rln_3 fX4_25 rfl ?_
    refine rw_sipush 30 (v := 400) dX4_take_30 (by decide) ?_
    refine rn_icmp_lt 33 51 dX4_take_33 (by decide) h (fun _ h => ?_) (fun _ h => ?_)
    · refine rw_aload_n 51 dX4_take_51 0 rfl ?_
      refine rw_dup 52 dX4_take_52 rfl ?_
      refine rw_getI 53 4 3 kc4 dX4_take_53 ly_3 rln_3 fX4_25 rfl ?_
      refine rw_iconst 56 (v := 1) dX4_take_56 (by decide) ?_
      refine rw_iadd 57 dX4_take_57 ?_
      refine rn_putI 58 4 3 kc4 dX4_take_58 ly_3 rln_3 fX4_25 (fun q hq => by cases hq; rfl) rfl rfl rfl h (fun μ3 h => ?_)
      refine rw_iconst 61 (v := 1) dX4_take_61 (by decide) ?_
      exact rn_zret2 62 (v := true) dX4_take_62 rfl h
    · refine rw_aload_n 36 dX4_take_36 0 rfl ?_
      refine rw_iload_n 37 dX4_take_37 1 rfl ?_
      refine rn_if_eq 38 45 dX4_take_38 (by decide) h (fun _ h => ?_) (fun _ h => ?_)
      · refine rw_iconst 45 (v := 1) dX4_take_45 (by decide) ?_
        refine rn_putI 46 4 0 kc4 dX4_take_46 ly_3 rln_3 fX4_9 (fun q hq => by cases hq; rfl) rfl rfl rfl h (fun μ4 h => ?_)
        refine rw_iconst 49 (v := 0) dX4_take_49 (by decide) ?_
        exact rn_zret2 50 (v := false) dX4_take_50 rfl h
      · refine rw_iconst 41 (v := 2) dX4_take_41 (by decide) ?_
        refine rw_goto 42 46 dX4_take_42 (by decide) ?_
        refine rn_putI 46 4 0 kc4 dX4_take_46 ly_3 rln_3 fX4_9 (fun q hq => by cases hq; rfl) rfl rfl rfl h (fun μ5 h => ?_)
        refine rw_iconst 49 (v := 0) dX4_take_49 (by decide) ?_
        exact rn_zret2 50 (v := false) dX4_take_50 rfl h
set_option maxRecDepth 100000 in
theorem wX4_take (a1 : Int32) (μ : Mem) {res : Bool × Mem} (h : fX4_take a1 μ = some res) : Ct mX4_take 1 NF NF [.ref 3, .int a1] (μ, Rf0, NF) (QN (some (.int (b2i res.1))) res.2 Rf0 NF) := by
  unfold fX4_take at h
  show RW mX4_take 1 NF NF 0 [(0, .ref 3), (1, .int a1)] [] (μ, Rf0, NF) (QN (some (.int (b2i res.1))) res.2 Rf0 NF)
  refine rw_aload_n 0 dX4_take_0 0 rfl ?_
  refine rw_getR 1 4 2 kc4 dX4_take_1 ly_3 rln_3 fX4_21 rfl rf_3_2 ?_
  refine rw_getR 4 8 0 kc8 dX4_take_4 ly_4 rln_4 fX4_58 rfl rf_4_0 ?_
  refine rw_aload_n 7 dX4_take_7 0 rfl ?_
  refine rw_getI 8 4 3 kc4 dX4_take_8 ly_3 rln_3 fX4_25 rfl ?_
  refine rn_iald 11 dX4_take_11 ly_5 rln_5 h (fun h => ?_)
  refine rw_iload_n 12 dX4_take_12 1 rfl ?_
  refine rn_icmp_ne 13 20 dX4_take_13 (by decide) h (fun _ h => ?_) (fun _ h => ?_)
  · refine rw_iconst 20 (v := 0) dX4_take_20 (by decide) ?_
    refine rw_pick 21 [0] rfl ?_
    exact wX4_take_j21 0 μ h
  · refine rw_iconst 16 (v := 1) dX4_take_16 (by decide) ?_
    refine rw_goto 17 21 dX4_take_17 (by decide) ?_
    refine rw_pick 21 [0] rfl ?_
    exact wX4_take_j21 1 μ h
def fX7_guestNamed_2 (t0 : Nat)  (v1 : Int64) (μ : Mem) (K : Unit → Option (Int32)) : Nat → Int32 → Option (Int32)
  | 0, _ => none
  | n + 1, v3 =>
    if v3 < (μ.1 t0 3) then
      if inb v3 7 then
      if (μ.2 (t0 + 15) v3.toNatClampNeg) = v1 then
        some v3
      else
        fX7_guestNamed_2 t0 v1 μ K n (v3 + 1)
      else none
    else
      K ()
def fX7_guestNamed (t0 : Nat) (a1 : Int64) (μ : Mem) : Option (Int32) :=
  fX7_guestNamed_2 t0 a1 μ (fun _ =>
      some (-1)
  ) FU 0
set_option maxRecDepth 100000 in
theorem wX7_guestNamed_2 (t0 : Nat) (ht0 : okX7 Rf0 NF t0)  (v1 : Int64) (μ : Mem) (K : Unit → Option (Int32)) {res : Int32} (hK : ∀ (_ : Unit), K () = some res → RW mX7_guestNamed 1 NF NF 29 [] [] (μ, Rf0, NF) (QN (some (.int res)) μ Rf0 NF)) : ∀ (n9 : Nat) (v3 : Int32), fX7_guestNamed_2 t0 v1 μ K n9 v3 = some res → RW mX7_guestNamed 1 NF NF 2 [(0, .ref t0), (1, .long v1), (3, .int v3)] [] (μ, Rf0, NF) (QN (some (.int res)) μ Rf0 NF) := by
  intro n9
  induction n9 with
  | zero => intro _ h; cases h
  | succ n ih =>
    intro v3 h
    unfold fX7_guestNamed_2 at h
    refine rw_iload_n 2 dX7_guestNamed_2 2 rfl ?_
    refine rw_aload_n 3 dX7_guestNamed_3 0 rfl ?_
    refine rw_getI 4 7 3 kc7 dX7_guestNamed_4 (o7l ht0) (o7n ht0) fX7_22 rfl ?_
    refine rn_icmp_ge 7 29 dX7_guestNamed_7 (by decide) h (fun _ h => ?_) (fun _ h => ?_)
    · refine rw_pick 29 [] rfl ?_
      exact hK () h
    · refine rw_aload_n 10 dX7_guestNamed_10 0 rfl ?_
      refine rw_getR 11 7 16 kc7 dX7_guestNamed_11 (o7l ht0) (o7n ht0) fX7_67 rfl (o7r16 ht0) ?_
      refine rw_iload_n 14 dX7_guestNamed_14 2 rfl ?_
      refine rn_lald 15 dX7_guestNamed_15 (o7l16 ht0) (o7n16 ht0) h (fun h => ?_)
      refine rw_lload_n 16 dX7_guestNamed_16 1 rfl ?_
      refine rn_lcmp_ne 17 23 dX7_guestNamed_17 dX7_guestNamed_18 (by decide) h (fun _ h => ?_) (fun _ h => ?_)
      · refine rw_iinc 23 [(0, .ref t0), (1, .long v1), (3, .int (v3 + 1))] dX7_guestNamed_23 2 rfl rfl (by decide) rfl ?_
        refine rw_goto 26 2 dX7_guestNamed_26 (by decide) ?_
        exact ih (v3 + 1) h
      · refine rw_iload_n 21 dX7_guestNamed_21 2 rfl ?_
        exact rn_iret 22 dX7_guestNamed_22 rfl h
set_option maxRecDepth 100000 in
theorem wX7_guestNamed (t0 : Nat) (ht0 : okX7 Rf0 NF t0) (a1 : Int64) (μ : Mem) {res : Int32} (h : fX7_guestNamed t0 a1 μ = some res) : Ct mX7_guestNamed 1 NF NF [.ref t0, .long a1] (μ, Rf0, NF) (QN (some (.int res)) μ Rf0 NF) := by
  unfold fX7_guestNamed at h
  show RW mX7_guestNamed 1 NF NF 0 [(0, .ref t0), (1, .long a1)] [] (μ, Rf0, NF) (QN (some (.int res)) μ Rf0 NF)
  refine rw_iconst 0 (v := 0) dX7_guestNamed_0 (by decide) ?_
  refine rw_istore_n 1 [(0, .ref t0), (1, .long a1), (3, .int 0)] dX7_guestNamed_1 (by decide) rfl ?_
  refine wX7_guestNamed_2 t0 ht0 a1 μ _ (fun _ h => ?_) FU 0 h
  refine rw_iconst 29 (v := -1) dX7_guestNamed_29 (by decide) ?_
  exact rn_iret 30 dX7_guestNamed_30 rfl h
def fX7_isNamed_2 (t0 : Nat)  (v1 : Int64) (μ : Mem) (K : Unit → Option (Bool)) : Nat → Int32 → Option (Bool)
  | 0, _ => none
  | n + 1, v3 =>
    if v3 < (μ.1 t0 0) then
      if inb v3 4 then
      if (μ.2 (t0 + 14) v3.toNatClampNeg) = v1 then
        some true
      else
        fX7_isNamed_2 t0 v1 μ K n (v3 + 1)
      else none
    else
      K ()
def fX7_isNamed (t0 : Nat) (a1 : Int64) (μ : Mem) : Option (Bool) :=
  fX7_isNamed_2 t0 a1 μ (fun _ =>
      (fX7_guestNamed t0 a1 μ).bind fun q1 =>
      if q1 < 0 then
        some false
      else
        some true
  ) FU 0
set_option maxRecDepth 100000 in
theorem wX7_isNamed_2 (t0 : Nat) (ht0 : okX7 Rf0 NF t0)  (v1 : Int64) (μ : Mem) (K : Unit → Option (Bool)) {res : Bool} (hK : ∀ (_ : Unit), K () = some res → RW mX7_isNamed 2 NF NF 29 [(0, .ref t0), (1, .long v1)] [] (μ, Rf0, NF) (QN (some (.int (b2i res))) μ Rf0 NF)) : ∀ (n9 : Nat) (v3 : Int32), fX7_isNamed_2 t0 v1 μ K n9 v3 = some res → RW mX7_isNamed 2 NF NF 2 [(0, .ref t0), (1, .long v1), (3, .int v3)] [] (μ, Rf0, NF) (QN (some (.int (b2i res))) μ Rf0 NF) := by
  intro n9
  induction n9 with
  | zero => intro _ h; cases h
  | succ n ih =>
    intro v3 h
    unfold fX7_isNamed_2 at h
    refine rw_iload_n 2 dX7_isNamed_2 2 rfl ?_
    refine rw_aload_n 3 dX7_isNamed_3 0 rfl ?_
    refine rw_getI 4 7 0 kc7 dX7_isNamed_4 (o7l ht0) (o7n ht0) fX7_9 rfl ?_
    refine rn_icmp_ge 7 29 dX7_isNamed_7 (by decide) h (fun _ h => ?_) (fun _ h => ?_)
    · refine rw_pick 29 [0, 1] rfl ?_
      exact hK () h
    · refine rw_aload_n 10 dX7_isNamed_10 0 rfl ?_
      refine rw_getR 11 7 15 kc7 dX7_isNamed_11 (o7l ht0) (o7n ht0) fX7_64 rfl (o7r15 ht0) ?_
      refine rw_iload_n 14 dX7_isNamed_14 2 rfl ?_
      refine rn_lald 15 dX7_isNamed_15 (o7l15 ht0) (o7n15 ht0) h (fun h => ?_)
      refine rw_lload_n 16 dX7_isNamed_16 1 rfl ?_
      refine rn_lcmp_ne 17 23 dX7_isNamed_17 dX7_isNamed_18 (by decide) h (fun _ h => ?_) (fun _ h => ?_)
      · refine rw_iinc 23 [(0, .ref t0), (1, .long v1), (3, .int (v3 + 1))] dX7_isNamed_23 2 rfl rfl (by decide) rfl ?_
        refine rw_goto 26 2 dX7_isNamed_26 (by decide) ?_
        exact ih (v3 + 1) h
      · refine rw_iconst 21 (v := 1) dX7_isNamed_21 (by decide) ?_
        exact rn_zret 22 (v := true) dX7_isNamed_22 rfl h
set_option maxRecDepth 100000 in
theorem wX7_isNamed (t0 : Nat) (ht0 : okX7 Rf0 NF t0) (a1 : Int64) (μ : Mem) {res : Bool} (h : fX7_isNamed t0 a1 μ = some res) : Ct mX7_isNamed 2 NF NF [.ref t0, .long a1] (μ, Rf0, NF) (QN (some (.int (b2i res))) μ Rf0 NF) := by
  unfold fX7_isNamed at h
  show RW mX7_isNamed 2 NF NF 0 [(0, .ref t0), (1, .long a1)] [] (μ, Rf0, NF) (QN (some (.int (b2i res))) μ Rf0 NF)
  refine rw_iconst 0 (v := 0) dX7_isNamed_0 (by decide) ?_
  refine rw_istore_n 1 [(0, .ref t0), (1, .long a1), (3, .int 0)] dX7_isNamed_1 (by decide) rfl ?_
  refine wX7_isNamed_2 t0 ht0 a1 μ _ (fun _ h => ?_) FU 0 h
  refine rw_aload_n 29 dX7_isNamed_29 0 rfl ?_
  refine rw_lload_n 30 dX7_isNamed_30 1 rfl ?_
  refine rn_cVpi 31 7 [.long a1] dX7_isNamed_31 caX7_guestNamed lX7_77 inX7_guestNamed slX7_guestNamed rfl (o7l ht0) ⟨_, rfl, rfl⟩ (o7n ht0) naX7_guestNamed (Nat.le_of_ble_eq_true rfl) (Nat.le_of_ble_eq_true rfl) (by decide) (fun _ hq => wX7_guestNamed t0 ht0 a1 μ hq) h (fun q1 h => ?_)
  refine rn_if_lt 34 41 dX7_isNamed_34 (by decide) h (fun _ h => ?_) (fun _ h => ?_)
  · refine rw_iconst 41 (v := 0) dX7_isNamed_41 (by decide) ?_
    exact rn_zret 42 (v := false) dX7_isNamed_42 rfl h
  · refine rw_iconst 37 (v := 1) dX7_isNamed_37 (by decide) ?_
    refine rw_goto 38 42 dX7_isNamed_38 (by decide) ?_
    exact rn_zret 42 (v := true) dX7_isNamed_42 rfl h
def fX4_keepLate (a1 : Int32) (a2 : Int32) (μ : Mem) : Option (Mem) :=
  if (μ.1 3 4) = 0 then
    nm (wI μ 3 4 a1) fun μ1 =>
    if inb a2 402 then
    nm (wI μ1 3 5 (μ1.1 6 a2.toNatClampNeg)) fun μ2 =>
    some μ2
    else none
  else
    some μ
set_option maxRecDepth 100000 in
theorem wX4_keepLate (a1 : Int32) (a2 : Int32) (μ : Mem) {res : Mem} (h : fX4_keepLate a1 a2 μ = some res) : Ct mX4_keepLate 1 NF NF [.ref 3, .int a1, .int a2] (μ, Rf0, NF) (QN none res Rf0 NF) := by
  unfold fX4_keepLate at h
  show RW mX4_keepLate 1 NF NF 0 [(0, .ref 3), (1, .int a1), (2, .int a2)] [] (μ, Rf0, NF) (QN none res Rf0 NF)
  refine rw_aload_n 0 dX4_keepLate_0 0 rfl ?_
  refine rw_getI 1 4 4 kc4 dX4_keepLate_1 ly_3 rln_3 fX4_28 rfl ?_
  refine rn_if_ne 4 25 dX4_keepLate_4 (by decide) h (fun _ h => ?_) (fun _ h => ?_)
  · exact rn_vret 25 dX4_keepLate_25 rfl h
  · refine rw_aload_n 7 dX4_keepLate_7 0 rfl ?_
    refine rw_iload_n 8 dX4_keepLate_8 1 rfl ?_
    refine rn_putI 9 4 4 kc4 dX4_keepLate_9 ly_3 rln_3 fX4_28 (fun q hq => by cases hq; rfl) rfl rfl rfl h (fun μ1 h => ?_)
    refine rw_aload_n 12 dX4_keepLate_12 0 rfl ?_
    refine rw_aload_n 13 dX4_keepLate_13 0 rfl ?_
    refine rw_getR 14 4 2 kc4 dX4_keepLate_14 ly_3 rln_3 fX4_21 rfl rf_3_2 ?_
    refine rw_getR 17 8 1 kc8 dX4_keepLate_17 ly_4 rln_4 fX4_51 rfl rf_4_1 ?_
    refine rw_iload_n 20 dX4_keepLate_20 2 rfl ?_
    refine rn_iald 21 dX4_keepLate_21 ly_6 rln_6 h (fun h => ?_)
    refine rn_putI 22 4 5 kc4 dX4_keepLate_22 ly_3 rln_3 fX4_31 (fun q hq => by cases hq; rfl) rfl rfl rfl h (fun μ2 h => ?_)
    exact rn_vret 25 dX4_keepLate_25 rfl h
def fX4_takeNewName (t1 : Nat) (μ : Mem) : Option (Bool × Mem) :=
  (fX4_take 2 μ).bind fun q1 =>
  if q1.1 = true then
    if inb ((q1.2.1 3 3) - 1) 402 then
    (fX7_isNamed t1 (q1.2.2 7 ((q1.2.1 3 3) - 1).toNatClampNeg) q1.2).bind fun q2 =>
    if q2 = true then
      (fX4_keepLate 3 ((q1.2.1 3 3) - 1) q1.2).bind fun q3 =>
      some (true, q3)
    else
      some (true, q1.2)
    else none
  else
    some (false, q1.2)
set_option maxRecDepth 100000 in
theorem wX4_takeNewName (t1 : Nat) (ht1 : okX7 Rf0 NF t1) (μ : Mem) {res : Bool × Mem} (h : fX4_takeNewName t1 μ = some res) : Ct mX4_takeNewName 3 NF NF [.ref 3, .ref t1] (μ, Rf0, NF) (QN (some (.int (b2i res.1))) res.2 Rf0 NF) := by
  unfold fX4_takeNewName at h
  show RW mX4_takeNewName 3 NF NF 0 [(0, .ref 3), (1, .ref t1)] [] (μ, Rf0, NF) (QN (some (.int (b2i res.1))) res.2 Rf0 NF)
  refine rw_aload_n 0 dX4_takeNewName_0 0 rfl ?_
  refine rw_iconst 1 (v := 2) dX4_takeNewName_1 (by decide) ?_
  refine rn_cVmb 2 4 [.int 2] dX4_takeNewName_2 caX4_take lX4_78 inX4_take slX4_take rfl ly_3 ⟨_, rfl, rfl⟩ rln_3 naX4_take (Nat.le_of_ble_eq_true rfl) (Nat.le_of_ble_eq_true rfl) (by decide) (fun _ hq => wX4_take 2 μ hq) h (fun q1 h => ?_)
  refine rn_ifb_ne 5 10 dX4_takeNewName_5 (by decide) h (fun _ h => ?_) (fun _ h => ?_)
  · refine rw_aload_n 10 dX4_takeNewName_10 1 rfl ?_
    refine rw_aload_n 11 dX4_takeNewName_11 0 rfl ?_
    refine rw_getR 12 4 2 kc4 dX4_takeNewName_12 ly_3 rln_3 fX4_21 rfl rf_3_2 ?_
    refine rw_getR 15 8 2 kc8 dX4_takeNewName_15 ly_4 rln_4 fX4_105 rfl rf_4_2 ?_
    refine rw_aload_n 18 dX4_takeNewName_18 0 rfl ?_
    refine rw_getI 19 4 3 kc4 dX4_takeNewName_19 ly_3 rln_3 fX4_25 rfl ?_
    refine rw_iconst 22 (v := 1) dX4_takeNewName_22 (by decide) ?_
    refine rw_isub 23 dX4_takeNewName_23 ?_
    refine rn_lald 24 dX4_takeNewName_24 ly_7 rln_7 h (fun h => ?_)
    refine rn_cVpb 25 7 [.long (q1.2.2 7 ((q1.2.1 3 3) - 1).toNatClampNeg)] dX4_takeNewName_25 caX7_isNamed lX4_159 inX7_isNamed slX7_isNamed rfl (o7l ht1) ⟨_, rfl, rfl⟩ (o7n ht1) naX7_isNamed (Nat.le_of_ble_eq_true rfl) (Nat.le_of_ble_eq_true rfl) (by decide) (fun _ hq => wX7_isNamed t1 ht1 (q1.2.2 7 ((q1.2.1 3 3) - 1).toNatClampNeg) q1.2 hq) h (fun q2 h => ?_)
    refine rn_ifb_eq 28 42 dX4_takeNewName_28 (by decide) h (fun _ h => ?_) (fun _ h => ?_)
    · refine rw_iconst 42 (v := 1) dX4_takeNewName_42 (by decide) ?_
      exact rn_zret2 43 (v := true) dX4_takeNewName_43 rfl h
    · refine rw_aload_n 31 dX4_takeNewName_31 0 rfl ?_
      refine rw_iconst 32 (v := 3) dX4_takeNewName_32 (by decide) ?_
      refine rw_aload_n 33 dX4_takeNewName_33 0 rfl ?_
      refine rw_getI 34 4 3 kc4 dX4_takeNewName_34 ly_3 rln_3 fX4_25 rfl ?_
      refine rw_iconst 37 (v := 1) dX4_takeNewName_37 (by decide) ?_
      refine rw_isub 38 dX4_takeNewName_38 ?_
      refine rn_cVmv 39 4 [.int 3, .int ((q1.2.1 3 3) - 1)] dX4_takeNewName_39 caX4_keepLate lX4_127 inX4_keepLate slX4_keepLate rfl ly_3 ⟨_, rfl, rfl⟩ rln_3 naX4_keepLate (Nat.le_of_ble_eq_true rfl) (Nat.le_of_ble_eq_true rfl) (by decide) (fun _ hq => wX4_keepLate 3 ((q1.2.1 3 3) - 1) q1.2 hq) h (fun q3 h => ?_)
      refine rw_iconst 42 (v := 1) dX4_takeNewName_42 (by decide) ?_
      exact rn_zret2 43 (v := true) dX4_takeNewName_43 rfl h
  · refine rw_iconst 8 (v := 0) dX4_takeNewName_8 (by decide) ?_
    exact rn_zret2 9 (v := false) dX4_takeNewName_9 rfl h
def fX4_intBehind (a1 : Int32) (μ : Mem) : Option (Int32) :=
  if (μ.1 3 3) < a1 then
    some 0
  else
    if inb ((μ.1 3 3) - a1) 402 then
    some (μ.2 7 ((μ.1 3 3) - a1).toNatClampNeg).toInt32
    else none
set_option maxRecDepth 100000 in
theorem wX4_intBehind (a1 : Int32) (μ : Mem) {res : Int32} (h : fX4_intBehind a1 μ = some res) : Ct mX4_intBehind 1 NF NF [.ref 3, .int a1] (μ, Rf0, NF) (QN (some (.int res)) μ Rf0 NF) := by
  unfold fX4_intBehind at h
  show RW mX4_intBehind 1 NF NF 0 [(0, .ref 3), (1, .int a1)] [] (μ, Rf0, NF) (QN (some (.int res)) μ Rf0 NF)
  refine rw_aload_n 0 dX4_intBehind_0 0 rfl ?_
  refine rw_getI 1 4 3 kc4 dX4_intBehind_1 ly_3 rln_3 fX4_25 rfl ?_
  refine rw_iload_n 4 dX4_intBehind_4 1 rfl ?_
  refine rn_icmp_ge 5 12 dX4_intBehind_5 (by decide) h (fun _ h => ?_) (fun _ h => ?_)
  · refine rw_aload_n 12 dX4_intBehind_12 0 rfl ?_
    refine rw_getR 13 4 2 kc4 dX4_intBehind_13 ly_3 rln_3 fX4_21 rfl rf_3_2 ?_
    refine rw_getR 16 8 2 kc8 dX4_intBehind_16 ly_4 rln_4 fX4_105 rfl rf_4_2 ?_
    refine rw_aload_n 19 dX4_intBehind_19 0 rfl ?_
    refine rw_getI 20 4 3 kc4 dX4_intBehind_20 ly_3 rln_3 fX4_25 rfl ?_
    refine rw_iload_n 23 dX4_intBehind_23 1 rfl ?_
    refine rw_isub 24 dX4_intBehind_24 ?_
    refine rn_lald 25 dX4_intBehind_25 ly_7 rln_7 h (fun h => ?_)
    refine rw_l2i 26 dX4_intBehind_26 ?_
    exact rn_iret 27 dX4_intBehind_27 rfl h
  · refine rw_iconst 8 (v := 0) dX4_intBehind_8 (by decide) ?_
    refine rw_goto 9 27 dX4_intBehind_9 (by decide) ?_
    exact rn_iret 27 dX4_intBehind_27 rfl h
def fX4_takeInt (a1 : Int32) (a2 : Int32) (μ : Mem) : Option (Bool × Mem) :=
  (fX4_take 3 μ).bind fun q1 =>
  if q1.1 = true then
    (fX4_intBehind 1 q1.2).bind fun q2 =>
    if q2 < a1 then
      (fX4_keepLate 5 ((q1.2.1 3 3) - 1) q1.2).bind fun q3 =>
      some (true, q3)
    else
      if a2 < q2 then
        (fX4_keepLate 5 ((q1.2.1 3 3) - 1) q1.2).bind fun q4 =>
        some (true, q4)
      else
        some (true, q1.2)
  else
    some (false, q1.2)
set_option maxRecDepth 100000 in
theorem wX4_takeInt (a1 : Int32) (a2 : Int32) (μ : Mem) {res : Bool × Mem} (h : fX4_takeInt a1 a2 μ = some res) : Ct mX4_takeInt 2 NF NF [.ref 3, .int a1, .int a2] (μ, Rf0, NF) (QN (some (.int (b2i res.1))) res.2 Rf0 NF) := by
  unfold fX4_takeInt at h
  show RW mX4_takeInt 2 NF NF 0 [(0, .ref 3), (1, .int a1), (2, .int a2)] [] (μ, Rf0, NF) (QN (some (.int (b2i res.1))) res.2 Rf0 NF)
  refine rw_aload_n 0 dX4_takeInt_0 0 rfl ?_
  refine rw_iconst 1 (v := 3) dX4_takeInt_1 (by decide) ?_
  refine rn_cVmb 2 4 [.int 3] dX4_takeInt_2 caX4_take lX4_78 inX4_take slX4_take rfl ly_3 ⟨_, rfl, rfl⟩ rln_3 naX4_take (Nat.le_of_ble_eq_true rfl) (Nat.le_of_ble_eq_true rfl) (by decide) (fun _ hq => wX4_take 3 μ hq) h (fun q1 h => ?_)
  refine rn_ifb_ne 5 10 dX4_takeInt_5 (by decide) h (fun _ h => ?_) (fun _ h => ?_)
  · refine rw_aload_n 10 dX4_takeInt_10 0 rfl ?_
    refine rw_iconst 11 (v := 1) dX4_takeInt_11 (by decide) ?_
    refine rn_cVpi 12 4 [.int 1] dX4_takeInt_12 caX4_intBehind lX4_86 inX4_intBehind slX4_intBehind rfl ly_3 ⟨_, rfl, rfl⟩ rln_3 naX4_intBehind (Nat.le_of_ble_eq_true rfl) (Nat.le_of_ble_eq_true rfl) (by decide) (fun _ hq => wX4_intBehind 1 q1.2 hq) h (fun q2 h => ?_)
    refine rw_istore_n 15 [(0, .ref 3), (1, .int a1), (2, .int a2), (3, .int q2)] dX4_takeInt_15 (by decide) rfl ?_
    refine rw_iload_n 16 dX4_takeInt_16 3 rfl ?_
    refine rw_iload_n 17 dX4_takeInt_17 1 rfl ?_
    refine rn_icmp_lt 18 26 dX4_takeInt_18 (by decide) h (fun _ h => ?_) (fun _ h => ?_)
    · refine rw_aload_n 26 dX4_takeInt_26 0 rfl ?_
      refine rw_iconst 27 (v := 5) dX4_takeInt_27 (by decide) ?_
      refine rw_aload_n 28 dX4_takeInt_28 0 rfl ?_
      refine rw_getI 29 4 3 kc4 dX4_takeInt_29 ly_3 rln_3 fX4_25 rfl ?_
      refine rw_iconst 32 (v := 1) dX4_takeInt_32 (by decide) ?_
      refine rw_isub 33 dX4_takeInt_33 ?_
      refine rn_cVmv 34 4 [.int 5, .int ((q1.2.1 3 3) - 1)] dX4_takeInt_34 caX4_keepLate lX4_127 inX4_keepLate slX4_keepLate rfl ly_3 ⟨_, rfl, rfl⟩ rln_3 naX4_keepLate (Nat.le_of_ble_eq_true rfl) (Nat.le_of_ble_eq_true rfl) (by decide) (fun _ hq => wX4_keepLate 5 ((q1.2.1 3 3) - 1) q1.2 hq) h (fun q3 h => ?_)
      refine rw_iconst 37 (v := 1) dX4_takeInt_37 (by decide) ?_
      exact rn_zret2 38 (v := true) dX4_takeInt_38 rfl h
    · refine rw_iload_n 21 dX4_takeInt_21 3 rfl ?_
      refine rw_iload_n 22 dX4_takeInt_22 2 rfl ?_
      refine rn_icmp_le 23 37 dX4_takeInt_23 (by decide) h (fun _ h => ?_) (fun _ h => ?_)
      · refine rw_iconst 37 (v := 1) dX4_takeInt_37 (by decide) ?_
        exact rn_zret2 38 (v := true) dX4_takeInt_38 rfl h
      · refine rw_aload_n 26 dX4_takeInt_26 0 rfl ?_
        refine rw_iconst 27 (v := 5) dX4_takeInt_27 (by decide) ?_
        refine rw_aload_n 28 dX4_takeInt_28 0 rfl ?_
        refine rw_getI 29 4 3 kc4 dX4_takeInt_29 ly_3 rln_3 fX4_25 rfl ?_
        refine rw_iconst 32 (v := 1) dX4_takeInt_32 (by decide) ?_
        refine rw_isub 33 dX4_takeInt_33 ?_
        refine rn_cVmv 34 4 [.int 5, .int ((q1.2.1 3 3) - 1)] dX4_takeInt_34 caX4_keepLate lX4_127 inX4_keepLate slX4_keepLate rfl ly_3 ⟨_, rfl, rfl⟩ rln_3 naX4_keepLate (Nat.le_of_ble_eq_true rfl) (Nat.le_of_ble_eq_true rfl) (by decide) (fun _ hq => wX4_keepLate 5 ((q1.2.1 3 3) - 1) q1.2 hq) h (fun q4 h => ?_)
        refine rw_iconst 37 (v := 1) dX4_takeInt_37 (by decide) ?_
        exact rn_zret2 38 (v := true) dX4_takeInt_38 rfl h
  · refine rw_iconst 8 (v := 0) dX4_takeInt_8 (by decide) ?_
    exact rn_zret2 9 (v := false) dX4_takeInt_9 rfl h
def fX7_addSunday (t0 : Nat) (a1 : Int64) (a2 : Int32) (a3 : Int32) (μ : Mem) : Option (Mem) :=
  if (μ.1 t0 0) < 4 then
    if inb (μ.1 t0 0) 4 then nm (wJ μ (t0 + 14) (μ.1 t0 0).toNatClampNeg a1) fun μ1 =>
    if inb (μ1.1 t0 0) 4 then nm (wI μ1 (t0 + 1) (μ1.1 t0 0).toNatClampNeg a2) fun μ2 =>
    if inb (μ2.1 t0 0) 4 then nm (wI μ2 (t0 + 2) (μ2.1 t0 0).toNatClampNeg a3) fun μ3 =>
    nm (wI μ3 t0 0 ((μ3.1 t0 0) + 1)) fun μ4 =>
    some μ4
    else none
    else none
    else none
  else
    some μ
set_option maxRecDepth 100000 in
theorem wX7_addSunday (t0 : Nat) (ht0 : okX7 Rf0 NF t0) (a1 : Int64) (a2 : Int32) (a3 : Int32) (μ : Mem) {res : Mem} (h : fX7_addSunday t0 a1 a2 a3 μ = some res) : Ct mX7_addSunday 1 NF NF [.ref t0, .long a1, .int a2, .int a3] (μ, Rf0, NF) (QN none res Rf0 NF) := by
  unfold fX7_addSunday at h
  show RW mX7_addSunday 1 NF NF 0 [(0, .ref t0), (1, .long a1), (3, .int a2), (4, .int a3)] [] (μ, Rf0, NF) (QN none res Rf0 NF)
  refine rw_aload_n 0 dX7_addSunday_0 0 rfl ?_
  refine rw_getI 1 7 0 kc7 dX7_addSunday_1 (o7l ht0) (o7n ht0) fX7_9 rfl ?_
  refine rw_iconst 4 (v := 4) dX7_addSunday_4 (by decide) ?_
  refine rn_icmp_ge 5 49 dX7_addSunday_5 (by decide) h (fun _ h => ?_) (fun _ h => ?_)
  · exact rn_vret 49 dX7_addSunday_49 rfl h
  · refine rw_aload_n 8 dX7_addSunday_8 0 rfl ?_
    refine rw_getR 9 7 15 kc7 dX7_addSunday_9 (o7l ht0) (o7n ht0) fX7_64 rfl (o7r15 ht0) ?_
    refine rw_aload_n 12 dX7_addSunday_12 0 rfl ?_
    refine rw_getI 13 7 0 kc7 dX7_addSunday_13 (o7l ht0) (o7n ht0) fX7_9 rfl ?_
    refine rw_lload_n 16 dX7_addSunday_16 1 rfl ?_
    refine rn_last 17 dX7_addSunday_17 (o7l15 ht0) (o7n15 ht0) h (fun μ1 h => ?_)
    refine rw_aload_n 18 dX7_addSunday_18 0 rfl ?_
    refine rw_getR 19 7 1 kc7 dX7_addSunday_19 (o7l ht0) (o7n ht0) fX7_15 rfl (o7r1 ht0) ?_
    refine rw_aload_n 22 dX7_addSunday_22 0 rfl ?_
    refine rw_getI 23 7 0 kc7 dX7_addSunday_23 (o7l ht0) (o7n ht0) fX7_9 rfl ?_
    refine rw_iload_n 26 dX7_addSunday_26 2 rfl ?_
    refine rn_iast 27 dX7_addSunday_27 (o7l1 ht0) (o7n1 ht0) h (fun μ2 h => ?_)
    refine rw_aload_n 28 dX7_addSunday_28 0 rfl ?_
    refine rw_getR 29 7 2 kc7 dX7_addSunday_29 (o7l ht0) (o7n ht0) fX7_19 rfl (o7r2 ht0) ?_
    refine rw_aload_n 32 dX7_addSunday_32 0 rfl ?_
    refine rw_getI 33 7 0 kc7 dX7_addSunday_33 (o7l ht0) (o7n ht0) fX7_9 rfl ?_
    refine rw_iload 36 dX7_addSunday_36 3 rfl ?_
    refine rn_iast 38 dX7_addSunday_38 (o7l2 ht0) (o7n2 ht0) h (fun μ3 h => ?_)
    refine rw_aload_n 39 dX7_addSunday_39 0 rfl ?_
    refine rw_dup 40 dX7_addSunday_40 rfl ?_
    refine rw_getI 41 7 0 kc7 dX7_addSunday_41 (o7l ht0) (o7n ht0) fX7_9 rfl ?_
    refine rw_iconst 44 (v := 1) dX7_addSunday_44 (by decide) ?_
    refine rw_iadd 45 dX7_addSunday_45 ?_
    refine rn_putI 46 7 0 kc7 dX7_addSunday_46 (o7l ht0) (o7n ht0) fX7_9 (fun q hq => by cases hq; rfl) rfl rfl rfl h (fun μ4 h => ?_)
    exact rn_vret 49 dX7_addSunday_49 rfl h
def fX4_readSunday (t1 : Nat) (μ : Mem) : Option (Bool × Mem) :=
  if (μ.1 t1 0) < 4 then
    (fX4_take 13 μ).bind fun q1 =>
    if q1.1 = true then
      (fX4_takeNewName t1 q1.2).bind fun q2 =>
      if q2.1 = true then
        (fX4_takeInt 1 24 q2.2).bind fun q3 =>
        if q3.1 = true then
          (fX4_takeInt 0 99 q3.2).bind fun q4 =>
          if q4.1 = true then
            (fX4_take 4 q4.2).bind fun q5 =>
            if q5.1 = true then
              if inb ((q5.2.1 3 3) - 4) 402 then
              (fX4_intBehind 3 q5.2).bind fun q6 =>
              (fX4_intBehind 2 q5.2).bind fun q7 =>
              (fX7_addSunday t1 (q5.2.2 7 ((q5.2.1 3 3) - 4).toNatClampNeg) q6 q7 q5.2).bind fun q8 =>
              some (true, q8)
              else none
            else
              some (false, q5.2)
          else
            some (false, q4.2)
        else
          some (false, q3.2)
      else
        some (false, q2.2)
    else
      some (false, q1.2)
  else
    (fX4_fail 2 μ).bind fun q9 =>
    some (q9.1, q9.2)
set_option maxRecDepth 100000 in
theorem wX4_readSunday (t1 : Nat) (ht1 : okX7 Rf0 NF t1) (μ : Mem) {res : Bool × Mem} (h : fX4_readSunday t1 μ = some res) : Ct mX4_readSunday 4 NF NF [.ref 3, .ref t1] (μ, Rf0, NF) (QN (some (.int (b2i res.1))) res.2 Rf0 NF) := by
  unfold fX4_readSunday at h
  show RW mX4_readSunday 4 NF NF 0 [(0, .ref 3), (1, .ref t1)] [] (μ, Rf0, NF) (QN (some (.int (b2i res.1))) res.2 Rf0 NF)
  refine rw_aload_n 0 dX4_readSunday_0 1 rfl ?_
  refine rw_getI 1 7 0 kc7 dX4_readSunday_1 (o7l ht1) (o7n ht1) fX4_99 rfl ?_
  refine rw_iconst 4 (v := 4) dX4_readSunday_4 (by decide) ?_
  refine rn_icmp_lt 5 14 dX4_readSunday_5 (by decide) h (fun _ h => ?_) (fun _ h => ?_)
  · refine rw_aload_n 14 dX4_readSunday_14 0 rfl ?_
    refine rw_bipush 15 (v := 13) dX4_readSunday_15 (by decide) ?_
    refine rn_cVmb 17 4 [.int 13] dX4_readSunday_17 caX4_take lX4_78 inX4_take slX4_take rfl ly_3 ⟨_, rfl, rfl⟩ rln_3 naX4_take (Nat.le_of_ble_eq_true rfl) (Nat.le_of_ble_eq_true rfl) (by decide) (fun _ hq => wX4_take 13 μ hq) h (fun q1 h => ?_)
    refine rn_ifb_eq 20 59 dX4_readSunday_20 (by decide) h (fun _ h => ?_) (fun _ h => ?_)
    · refine rw_iconst 59 (v := 0) dX4_readSunday_59 (by decide) ?_
      exact rn_zret2 60 (v := false) dX4_readSunday_60 rfl h
    · refine rw_aload_n 23 dX4_readSunday_23 0 rfl ?_
      refine rw_aload_n 24 dX4_readSunday_24 1 rfl ?_
      refine rn_cVmb 25 4 [.ref t1] dX4_readSunday_25 caX4_takeNewName lX4_102 inX4_takeNewName slX4_takeNewName rfl ly_3 ⟨_, rfl, rfl⟩ rln_3 naX4_takeNewName (Nat.le_of_ble_eq_true rfl) (Nat.le_of_ble_eq_true rfl) (by decide) (fun _ hq => wX4_takeNewName t1 ht1 q1.2 hq) h (fun q2 h => ?_)
      refine rn_ifb_eq 28 59 dX4_readSunday_28 (by decide) h (fun _ h => ?_) (fun _ h => ?_)
      · refine rw_iconst 59 (v := 0) dX4_readSunday_59 (by decide) ?_
        exact rn_zret2 60 (v := false) dX4_readSunday_60 rfl h
      · refine rw_aload_n 31 dX4_readSunday_31 0 rfl ?_
        refine rw_iconst 32 (v := 1) dX4_readSunday_32 (by decide) ?_
        refine rw_bipush 33 (v := 24) dX4_readSunday_33 (by decide) ?_
        refine rn_cVmb 35 4 [.int 1, .int 24] dX4_readSunday_35 caX4_takeInt lX4_82 inX4_takeInt slX4_takeInt rfl ly_3 ⟨_, rfl, rfl⟩ rln_3 naX4_takeInt (Nat.le_of_ble_eq_true rfl) (Nat.le_of_ble_eq_true rfl) (by decide) (fun _ hq => wX4_takeInt 1 24 q2.2 hq) h (fun q3 h => ?_)
        refine rn_ifb_eq 38 59 dX4_readSunday_38 (by decide) h (fun _ h => ?_) (fun _ h => ?_)
        · refine rw_iconst 59 (v := 0) dX4_readSunday_59 (by decide) ?_
          exact rn_zret2 60 (v := false) dX4_readSunday_60 rfl h
        · refine rw_aload_n 41 dX4_readSunday_41 0 rfl ?_
          refine rw_iconst 42 (v := 0) dX4_readSunday_42 (by decide) ?_
          refine rw_bipush 43 (v := 99) dX4_readSunday_43 (by decide) ?_
          refine rn_cVmb 45 4 [.int 0, .int 99] dX4_readSunday_45 caX4_takeInt lX4_82 inX4_takeInt slX4_takeInt rfl ly_3 ⟨_, rfl, rfl⟩ rln_3 naX4_takeInt (Nat.le_of_ble_eq_true rfl) (Nat.le_of_ble_eq_true rfl) (by decide) (fun _ hq => wX4_takeInt 0 99 q3.2 hq) h (fun q4 h => ?_)
          refine rn_ifb_eq 48 59 dX4_readSunday_48 (by decide) h (fun _ h => ?_) (fun _ h => ?_)
          · refine rw_iconst 59 (v := 0) dX4_readSunday_59 (by decide) ?_
            exact rn_zret2 60 (v := false) dX4_readSunday_60 rfl h
          · refine rw_aload_n 51 dX4_readSunday_51 0 rfl ?_
            refine rw_iconst 52 (v := 4) dX4_readSunday_52 (by decide) ?_
            refine rn_cVmb 53 4 [.int 4] dX4_readSunday_53 caX4_take lX4_78 inX4_take slX4_take rfl ly_3 ⟨_, rfl, rfl⟩ rln_3 naX4_take (Nat.le_of_ble_eq_true rfl) (Nat.le_of_ble_eq_true rfl) (by decide) (fun _ hq => wX4_take 4 q4.2 hq) h (fun q5 h => ?_)
            refine rn_ifb_ne 56 61 dX4_readSunday_56 (by decide) h (fun _ h => ?_) (fun _ h => ?_)
            · refine rw_aload_n 61 dX4_readSunday_61 1 rfl ?_
              refine rw_aload_n 62 dX4_readSunday_62 0 rfl ?_
              refine rw_getR 63 4 2 kc4 dX4_readSunday_63 ly_3 rln_3 fX4_21 rfl rf_3_2 ?_
              refine rw_getR 66 8 2 kc8 dX4_readSunday_66 ly_4 rln_4 fX4_105 rfl rf_4_2 ?_
              refine rw_aload_n 69 dX4_readSunday_69 0 rfl ?_
              refine rw_getI 70 4 3 kc4 dX4_readSunday_70 ly_3 rln_3 fX4_25 rfl ?_
              refine rw_iconst 73 (v := 4) dX4_readSunday_73 (by decide) ?_
              refine rw_isub 74 dX4_readSunday_74 ?_
              refine rn_lald 75 dX4_readSunday_75 ly_7 rln_7 h (fun h => ?_)
              refine rw_aload_n 76 dX4_readSunday_76 0 rfl ?_
              refine rw_iconst 77 (v := 3) dX4_readSunday_77 (by decide) ?_
              refine rn_cVpi 78 4 [.int 3] dX4_readSunday_78 caX4_intBehind lX4_86 inX4_intBehind slX4_intBehind rfl ly_3 ⟨_, rfl, rfl⟩ rln_3 naX4_intBehind (Nat.le_of_ble_eq_true rfl) (Nat.le_of_ble_eq_true rfl) (by decide) (fun _ hq => wX4_intBehind 3 q5.2 hq) h (fun q6 h => ?_)
              refine rw_aload_n 81 dX4_readSunday_81 0 rfl ?_
              refine rw_iconst 82 (v := 2) dX4_readSunday_82 (by decide) ?_
              refine rn_cVpi 83 4 [.int 2] dX4_readSunday_83 caX4_intBehind lX4_86 inX4_intBehind slX4_intBehind rfl ly_3 ⟨_, rfl, rfl⟩ rln_3 naX4_intBehind (Nat.le_of_ble_eq_true rfl) (Nat.le_of_ble_eq_true rfl) (by decide) (fun _ hq => wX4_intBehind 2 q5.2 hq) h (fun q7 h => ?_)
              refine rn_cVmv 86 7 [.long (q5.2.2 7 ((q5.2.1 3 3) - 4).toNatClampNeg), .int q6, .int q7] dX4_readSunday_86 caX7_addSunday lX4_109 inX7_addSunday slX7_addSunday rfl (o7l ht1) ⟨_, rfl, rfl⟩ (o7n ht1) naX7_addSunday (Nat.le_of_ble_eq_true rfl) (Nat.le_of_ble_eq_true rfl) (by decide) (fun _ hq => wX7_addSunday t1 ht1 (q5.2.2 7 ((q5.2.1 3 3) - 4).toNatClampNeg) q6 q7 q5.2 hq) h (fun q8 h => ?_)
              refine rw_iconst 89 (v := 1) dX4_readSunday_89 (by decide) ?_
              exact rn_zret2 90 (v := true) dX4_readSunday_90 rfl h
            · refine rw_iconst 59 (v := 0) dX4_readSunday_59 (by decide) ?_
              exact rn_zret2 60 (v := false) dX4_readSunday_60 rfl h
  · refine rw_aload_n 8 dX4_readSunday_8 0 rfl ?_
    refine rw_iconst 9 (v := 2) dX4_readSunday_9 (by decide) ?_
    refine rn_cVmb 10 4 [.int 2] dX4_readSunday_10 caX4_fail lX4_96 inX4_fail slX4_fail rfl ly_3 ⟨_, rfl, rfl⟩ rln_3 naX4_fail (Nat.le_of_ble_eq_true rfl) (Nat.le_of_ble_eq_true rfl) (by decide) (fun _ hq => wX4_fail 2 μ hq) h (fun q9 h => ?_)
    exact rn_zret2 13 (v := q9.1) dX4_readSunday_13 rfl h
def fX7_addGuest (t0 : Nat) (a1 : Int64) (a2 : Int32) (a3 : Int32) (a4 : Int32) (μ : Mem) : Option (Mem) :=
  if (μ.1 t0 3) < 7 then
    if inb (μ.1 t0 3) 7 then nm (wJ μ (t0 + 15) (μ.1 t0 3).toNatClampNeg a1) fun μ1 =>
    if inb (μ1.1 t0 3) 7 then nm (wI μ1 (t0 + 3) (μ1.1 t0 3).toNatClampNeg a2) fun μ2 =>
    if inb (μ2.1 t0 3) 7 then nm (wI μ2 (t0 + 4) (μ2.1 t0 3).toNatClampNeg a3) fun μ3 =>
    if inb (μ3.1 t0 3) 7 then nm (wI μ3 (t0 + 5) (μ3.1 t0 3).toNatClampNeg a4) fun μ4 =>
    if inb (μ4.1 t0 3) 7 then nm (wI μ4 (t0 + 13) (μ4.1 t0 3).toNatClampNeg 0) fun μ5 =>
    nm (wI μ5 t0 3 ((μ5.1 t0 3) + 1)) fun μ6 =>
    some μ6
    else none
    else none
    else none
    else none
    else none
  else
    some μ
set_option maxRecDepth 100000 in
theorem wX7_addGuest (t0 : Nat) (ht0 : okX7 Rf0 NF t0) (a1 : Int64) (a2 : Int32) (a3 : Int32) (a4 : Int32) (μ : Mem) {res : Mem} (h : fX7_addGuest t0 a1 a2 a3 a4 μ = some res) : Ct mX7_addGuest 1 NF NF [.ref t0, .long a1, .int a2, .int a3, .int a4] (μ, Rf0, NF) (QN none res Rf0 NF) := by
  unfold fX7_addGuest at h
  show RW mX7_addGuest 1 NF NF 0 [(0, .ref t0), (1, .long a1), (3, .int a2), (4, .int a3), (5, .int a4)] [] (μ, Rf0, NF) (QN none res Rf0 NF)
  refine rw_aload_n 0 dX7_addGuest_0 0 rfl ?_
  refine rw_getI 1 7 3 kc7 dX7_addGuest_1 (o7l ht0) (o7n ht0) fX7_22 rfl ?_
  refine rw_bipush 4 (v := 7) dX7_addGuest_4 (by decide) ?_
  refine rn_icmp_ge 6 71 dX7_addGuest_6 (by decide) h (fun _ h => ?_) (fun _ h => ?_)
  · exact rn_vret 71 dX7_addGuest_71 rfl h
  · refine rw_aload_n 9 dX7_addGuest_9 0 rfl ?_
    refine rw_getR 10 7 16 kc7 dX7_addGuest_10 (o7l ht0) (o7n ht0) fX7_67 rfl (o7r16 ht0) ?_
    refine rw_aload_n 13 dX7_addGuest_13 0 rfl ?_
    refine rw_getI 14 7 3 kc7 dX7_addGuest_14 (o7l ht0) (o7n ht0) fX7_22 rfl ?_
    refine rw_lload_n 17 dX7_addGuest_17 1 rfl ?_
    refine rn_last 18 dX7_addGuest_18 (o7l16 ht0) (o7n16 ht0) h (fun μ1 h => ?_)
    refine rw_aload_n 19 dX7_addGuest_19 0 rfl ?_
    refine rw_getR 20 7 4 kc7 dX7_addGuest_20 (o7l ht0) (o7n ht0) fX7_25 rfl (o7r4 ht0) ?_
    refine rw_aload_n 23 dX7_addGuest_23 0 rfl ?_
    refine rw_getI 24 7 3 kc7 dX7_addGuest_24 (o7l ht0) (o7n ht0) fX7_22 rfl ?_
    refine rw_iload_n 27 dX7_addGuest_27 2 rfl ?_
    refine rn_iast 28 dX7_addGuest_28 (o7l4 ht0) (o7n4 ht0) h (fun μ2 h => ?_)
    refine rw_aload_n 29 dX7_addGuest_29 0 rfl ?_
    refine rw_getR 30 7 5 kc7 dX7_addGuest_30 (o7l ht0) (o7n ht0) fX7_28 rfl (o7r5 ht0) ?_
    refine rw_aload_n 33 dX7_addGuest_33 0 rfl ?_
    refine rw_getI 34 7 3 kc7 dX7_addGuest_34 (o7l ht0) (o7n ht0) fX7_22 rfl ?_
    refine rw_iload 37 dX7_addGuest_37 3 rfl ?_
    refine rn_iast 39 dX7_addGuest_39 (o7l5 ht0) (o7n5 ht0) h (fun μ3 h => ?_)
    refine rw_aload_n 40 dX7_addGuest_40 0 rfl ?_
    refine rw_getR 41 7 6 kc7 dX7_addGuest_41 (o7l ht0) (o7n ht0) fX7_31 rfl (o7r6 ht0) ?_
    refine rw_aload_n 44 dX7_addGuest_44 0 rfl ?_
    refine rw_getI 45 7 3 kc7 dX7_addGuest_45 (o7l ht0) (o7n ht0) fX7_22 rfl ?_
    refine rw_iload 48 dX7_addGuest_48 4 rfl ?_
    refine rn_iast 50 dX7_addGuest_50 (o7l6 ht0) (o7n6 ht0) h (fun μ4 h => ?_)
    refine rw_aload_n 51 dX7_addGuest_51 0 rfl ?_
    refine rw_getR 52 7 14 kc7 dX7_addGuest_52 (o7l ht0) (o7n ht0) fX7_61 rfl (o7r14 ht0) ?_
    refine rw_aload_n 55 dX7_addGuest_55 0 rfl ?_
    refine rw_getI 56 7 3 kc7 dX7_addGuest_56 (o7l ht0) (o7n ht0) fX7_22 rfl ?_
    refine rw_iconst 59 (v := 0) dX7_addGuest_59 (by decide) ?_
    refine rn_iast 60 dX7_addGuest_60 (o7l14 ht0) (o7n14 ht0) h (fun μ5 h => ?_)
    refine rw_aload_n 61 dX7_addGuest_61 0 rfl ?_
    refine rw_dup 62 dX7_addGuest_62 rfl ?_
    refine rw_getI 63 7 3 kc7 dX7_addGuest_63 (o7l ht0) (o7n ht0) fX7_22 rfl ?_
    refine rw_iconst 66 (v := 1) dX7_addGuest_66 (by decide) ?_
    refine rw_iadd 67 dX7_addGuest_67 ?_
    refine rn_putI 68 7 3 kc7 dX7_addGuest_68 (o7l ht0) (o7n ht0) fX7_22 (fun q hq => by cases hq; rfl) rfl rfl rfl h (fun μ6 h => ?_)
    exact rn_vret 71 dX7_addGuest_71 rfl h
def fX4_readGuest (t1 : Nat) (μ : Mem) : Option (Bool × Mem) :=
  if (μ.1 t1 3) < 7 then
    (fX4_take 14 μ).bind fun q1 =>
    if q1.1 = true then
      (fX4_takeNewName t1 q1.2).bind fun q2 =>
      if q2.1 = true then
        (fX4_takeInt 0 23 q2.2).bind fun q3 =>
        if q3.1 = true then
          (fX4_takeInt 1 12 q3.2).bind fun q4 =>
          if q4.1 = true then
            (fX4_takeInt 0 99 q4.2).bind fun q5 =>
            if q5.1 = true then
              (fX4_take 4 q5.2).bind fun q6 =>
              if q6.1 = true then
                if inb ((q6.2.1 3 3) - 5) 402 then
                (fX4_intBehind 4 q6.2).bind fun q7 =>
                (fX4_intBehind 3 q6.2).bind fun q8 =>
                (fX4_intBehind 2 q6.2).bind fun q9 =>
                (fX7_addGuest t1 (q6.2.2 7 ((q6.2.1 3 3) - 5).toNatClampNeg) q7 q8 q9 q6.2).bind fun q10 =>
                some (true, q10)
                else none
              else
                some (false, q6.2)
            else
              some (false, q5.2)
          else
            some (false, q4.2)
        else
          some (false, q3.2)
      else
        some (false, q2.2)
    else
      some (false, q1.2)
  else
    (fX4_fail 2 μ).bind fun q11 =>
    some (q11.1, q11.2)
set_option maxRecDepth 100000 in
theorem wX4_readGuest (t1 : Nat) (ht1 : okX7 Rf0 NF t1) (μ : Mem) {res : Bool × Mem} (h : fX4_readGuest t1 μ = some res) : Ct mX4_readGuest 4 NF NF [.ref 3, .ref t1] (μ, Rf0, NF) (QN (some (.int (b2i res.1))) res.2 Rf0 NF) := by
  unfold fX4_readGuest at h
  show RW mX4_readGuest 4 NF NF 0 [(0, .ref 3), (1, .ref t1)] [] (μ, Rf0, NF) (QN (some (.int (b2i res.1))) res.2 Rf0 NF)
  refine rw_aload_n 0 dX4_readGuest_0 1 rfl ?_
  refine rw_getI 1 7 3 kc7 dX4_readGuest_1 (o7l ht1) (o7n ht1) fX4_113 rfl ?_
  refine rw_bipush 4 (v := 7) dX4_readGuest_4 (by decide) ?_
  refine rn_icmp_lt 6 15 dX4_readGuest_6 (by decide) h (fun _ h => ?_) (fun _ h => ?_)
  · refine rw_aload_n 15 dX4_readGuest_15 0 rfl ?_
    refine rw_bipush 16 (v := 14) dX4_readGuest_16 (by decide) ?_
    refine rn_cVmb 18 4 [.int 14] dX4_readGuest_18 caX4_take lX4_78 inX4_take slX4_take rfl ly_3 ⟨_, rfl, rfl⟩ rln_3 naX4_take (Nat.le_of_ble_eq_true rfl) (Nat.le_of_ble_eq_true rfl) (by decide) (fun _ hq => wX4_take 14 μ hq) h (fun q1 h => ?_)
    refine rn_ifb_eq 21 70 dX4_readGuest_21 (by decide) h (fun _ h => ?_) (fun _ h => ?_)
    · refine rw_iconst 70 (v := 0) dX4_readGuest_70 (by decide) ?_
      exact rn_zret2 71 (v := false) dX4_readGuest_71 rfl h
    · refine rw_aload_n 24 dX4_readGuest_24 0 rfl ?_
      refine rw_aload_n 25 dX4_readGuest_25 1 rfl ?_
      refine rn_cVmb 26 4 [.ref t1] dX4_readGuest_26 caX4_takeNewName lX4_102 inX4_takeNewName slX4_takeNewName rfl ly_3 ⟨_, rfl, rfl⟩ rln_3 naX4_takeNewName (Nat.le_of_ble_eq_true rfl) (Nat.le_of_ble_eq_true rfl) (by decide) (fun _ hq => wX4_takeNewName t1 ht1 q1.2 hq) h (fun q2 h => ?_)
      refine rn_ifb_eq 29 70 dX4_readGuest_29 (by decide) h (fun _ h => ?_) (fun _ h => ?_)
      · refine rw_iconst 70 (v := 0) dX4_readGuest_70 (by decide) ?_
        exact rn_zret2 71 (v := false) dX4_readGuest_71 rfl h
      · refine rw_aload_n 32 dX4_readGuest_32 0 rfl ?_
        refine rw_iconst 33 (v := 0) dX4_readGuest_33 (by decide) ?_
        refine rw_bipush 34 (v := 23) dX4_readGuest_34 (by decide) ?_
        refine rn_cVmb 36 4 [.int 0, .int 23] dX4_readGuest_36 caX4_takeInt lX4_82 inX4_takeInt slX4_takeInt rfl ly_3 ⟨_, rfl, rfl⟩ rln_3 naX4_takeInt (Nat.le_of_ble_eq_true rfl) (Nat.le_of_ble_eq_true rfl) (by decide) (fun _ hq => wX4_takeInt 0 23 q2.2 hq) h (fun q3 h => ?_)
        refine rn_ifb_eq 39 70 dX4_readGuest_39 (by decide) h (fun _ h => ?_) (fun _ h => ?_)
        · refine rw_iconst 70 (v := 0) dX4_readGuest_70 (by decide) ?_
          exact rn_zret2 71 (v := false) dX4_readGuest_71 rfl h
        · refine rw_aload_n 42 dX4_readGuest_42 0 rfl ?_
          refine rw_iconst 43 (v := 1) dX4_readGuest_43 (by decide) ?_
          refine rw_bipush 44 (v := 12) dX4_readGuest_44 (by decide) ?_
          refine rn_cVmb 46 4 [.int 1, .int 12] dX4_readGuest_46 caX4_takeInt lX4_82 inX4_takeInt slX4_takeInt rfl ly_3 ⟨_, rfl, rfl⟩ rln_3 naX4_takeInt (Nat.le_of_ble_eq_true rfl) (Nat.le_of_ble_eq_true rfl) (by decide) (fun _ hq => wX4_takeInt 1 12 q3.2 hq) h (fun q4 h => ?_)
          refine rn_ifb_eq 49 70 dX4_readGuest_49 (by decide) h (fun _ h => ?_) (fun _ h => ?_)
          · refine rw_iconst 70 (v := 0) dX4_readGuest_70 (by decide) ?_
            exact rn_zret2 71 (v := false) dX4_readGuest_71 rfl h
          · refine rw_aload_n 52 dX4_readGuest_52 0 rfl ?_
            refine rw_iconst 53 (v := 0) dX4_readGuest_53 (by decide) ?_
            refine rw_bipush 54 (v := 99) dX4_readGuest_54 (by decide) ?_
            refine rn_cVmb 56 4 [.int 0, .int 99] dX4_readGuest_56 caX4_takeInt lX4_82 inX4_takeInt slX4_takeInt rfl ly_3 ⟨_, rfl, rfl⟩ rln_3 naX4_takeInt (Nat.le_of_ble_eq_true rfl) (Nat.le_of_ble_eq_true rfl) (by decide) (fun _ hq => wX4_takeInt 0 99 q4.2 hq) h (fun q5 h => ?_)
            refine rn_ifb_eq 59 70 dX4_readGuest_59 (by decide) h (fun _ h => ?_) (fun _ h => ?_)
            · refine rw_iconst 70 (v := 0) dX4_readGuest_70 (by decide) ?_
              exact rn_zret2 71 (v := false) dX4_readGuest_71 rfl h
            · refine rw_aload_n 62 dX4_readGuest_62 0 rfl ?_
              refine rw_iconst 63 (v := 4) dX4_readGuest_63 (by decide) ?_
              refine rn_cVmb 64 4 [.int 4] dX4_readGuest_64 caX4_take lX4_78 inX4_take slX4_take rfl ly_3 ⟨_, rfl, rfl⟩ rln_3 naX4_take (Nat.le_of_ble_eq_true rfl) (Nat.le_of_ble_eq_true rfl) (by decide) (fun _ hq => wX4_take 4 q5.2 hq) h (fun q6 h => ?_)
              refine rn_ifb_ne 67 72 dX4_readGuest_67 (by decide) h (fun _ h => ?_) (fun _ h => ?_)
              · refine rw_aload_n 72 dX4_readGuest_72 1 rfl ?_
                refine rw_aload_n 73 dX4_readGuest_73 0 rfl ?_
                refine rw_getR 74 4 2 kc4 dX4_readGuest_74 ly_3 rln_3 fX4_21 rfl rf_3_2 ?_
                refine rw_getR 77 8 2 kc8 dX4_readGuest_77 ly_4 rln_4 fX4_105 rfl rf_4_2 ?_
                refine rw_aload_n 80 dX4_readGuest_80 0 rfl ?_
                refine rw_getI 81 4 3 kc4 dX4_readGuest_81 ly_3 rln_3 fX4_25 rfl ?_
                refine rw_iconst 84 (v := 5) dX4_readGuest_84 (by decide) ?_
                refine rw_isub 85 dX4_readGuest_85 ?_
                refine rn_lald 86 dX4_readGuest_86 ly_7 rln_7 h (fun h => ?_)
                refine rw_aload_n 87 dX4_readGuest_87 0 rfl ?_
                refine rw_iconst 88 (v := 4) dX4_readGuest_88 (by decide) ?_
                refine rn_cVpi 89 4 [.int 4] dX4_readGuest_89 caX4_intBehind lX4_86 inX4_intBehind slX4_intBehind rfl ly_3 ⟨_, rfl, rfl⟩ rln_3 naX4_intBehind (Nat.le_of_ble_eq_true rfl) (Nat.le_of_ble_eq_true rfl) (by decide) (fun _ hq => wX4_intBehind 4 q6.2 hq) h (fun q7 h => ?_)
                refine rw_aload_n 92 dX4_readGuest_92 0 rfl ?_
                refine rw_iconst 93 (v := 3) dX4_readGuest_93 (by decide) ?_
                refine rn_cVpi 94 4 [.int 3] dX4_readGuest_94 caX4_intBehind lX4_86 inX4_intBehind slX4_intBehind rfl ly_3 ⟨_, rfl, rfl⟩ rln_3 naX4_intBehind (Nat.le_of_ble_eq_true rfl) (Nat.le_of_ble_eq_true rfl) (by decide) (fun _ hq => wX4_intBehind 3 q6.2 hq) h (fun q8 h => ?_)
                refine rw_aload_n 97 dX4_readGuest_97 0 rfl ?_
                refine rw_iconst 98 (v := 2) dX4_readGuest_98 (by decide) ?_
                refine rn_cVpi 99 4 [.int 2] dX4_readGuest_99 caX4_intBehind lX4_86 inX4_intBehind slX4_intBehind rfl ly_3 ⟨_, rfl, rfl⟩ rln_3 naX4_intBehind (Nat.le_of_ble_eq_true rfl) (Nat.le_of_ble_eq_true rfl) (by decide) (fun _ hq => wX4_intBehind 2 q6.2 hq) h (fun q9 h => ?_)
                refine rn_cVmv 102 7 [.long (q6.2.2 7 ((q6.2.1 3 3) - 5).toNatClampNeg), .int q7, .int q8, .int q9] dX4_readGuest_102 caX7_addGuest lX4_116 inX7_addGuest slX7_addGuest rfl (o7l ht1) ⟨_, rfl, rfl⟩ (o7n ht1) naX7_addGuest (Nat.le_of_ble_eq_true rfl) (Nat.le_of_ble_eq_true rfl) (by decide) (fun _ hq => wX7_addGuest t1 ht1 (q6.2.2 7 ((q6.2.1 3 3) - 5).toNatClampNeg) q7 q8 q9 q6.2 hq) h (fun q10 h => ?_)
                refine rw_iconst 105 (v := 1) dX4_readGuest_105 (by decide) ?_
                exact rn_zret2 106 (v := true) dX4_readGuest_106 rfl h
              · refine rw_iconst 70 (v := 0) dX4_readGuest_70 (by decide) ?_
                exact rn_zret2 71 (v := false) dX4_readGuest_71 rfl h
  · refine rw_aload_n 9 dX4_readGuest_9 0 rfl ?_
    refine rw_iconst 10 (v := 2) dX4_readGuest_10 (by decide) ?_
    refine rn_cVmb 11 4 [.int 2] dX4_readGuest_11 caX4_fail lX4_96 inX4_fail slX4_fail rfl ly_3 ⟨_, rfl, rfl⟩ rln_3 naX4_fail (Nat.le_of_ble_eq_true rfl) (Nat.le_of_ble_eq_true rfl) (by decide) (fun _ hq => wX4_fail 2 μ hq) h (fun q11 h => ?_)
    exact rn_zret2 14 (v := q11.1) dX4_readGuest_14 rfl h
def fX7_areFoes (t0 : Nat) (a1 : Int32) (a2 : Int32) (μ : Mem) : Option (Bool) :=
  if inb a1 7 then
  if (((μ.1 (t0 + 13) a1.toNatClampNeg) >>> (a2 &&& 31)) &&& 1) = 1 then
    some true
  else
    some false
  else none
set_option maxRecDepth 100000 in
theorem wX7_areFoes (t0 : Nat) (ht0 : okX7 Rf0 NF t0) (a1 : Int32) (a2 : Int32) (μ : Mem) {res : Bool} (h : fX7_areFoes t0 a1 a2 μ = some res) : Ct mX7_areFoes 1 NF NF [.ref t0, .int a1, .int a2] (μ, Rf0, NF) (QN (some (.int (b2i res))) μ Rf0 NF) := by
  unfold fX7_areFoes at h
  show RW mX7_areFoes 1 NF NF 0 [(0, .ref t0), (1, .int a1), (2, .int a2)] [] (μ, Rf0, NF) (QN (some (.int (b2i res))) μ Rf0 NF)
  refine rw_aload_n 0 dX7_areFoes_0 0 rfl ?_
  refine rw_getR 1 7 14 kc7 dX7_areFoes_1 (o7l ht0) (o7n ht0) fX7_61 rfl (o7r14 ht0) ?_
  refine rw_iload_n 4 dX7_areFoes_4 1 rfl ?_
  refine rn_iald 5 dX7_areFoes_5 (o7l14 ht0) (o7n14 ht0) h (fun h => ?_)
  refine rw_iload_n 6 dX7_areFoes_6 2 rfl ?_
  refine rw_ishr 7 dX7_areFoes_7 ?_
  refine rw_iconst 8 (v := 1) dX7_areFoes_8 (by decide) ?_
  refine rw_iand 9 dX7_areFoes_9 ?_
  refine rw_iconst 10 (v := 1) dX7_areFoes_10 (by decide) ?_
  refine rn_icmp_ne 11 18 dX7_areFoes_11 (by decide) h (fun _ h => ?_) (fun _ h => ?_)
  · refine rw_iconst 18 (v := 0) dX7_areFoes_18 (by decide) ?_
    exact rn_zret 19 (v := false) dX7_areFoes_19 rfl h
  · refine rw_iconst 14 (v := 1) dX7_areFoes_14 (by decide) ?_
    refine rw_goto 15 19 dX7_areFoes_15 (by decide) ?_
    exact rn_zret 19 (v := true) dX7_areFoes_19 rfl h
def fX7_addFoes (t0 : Nat) (a1 : Int32) (a2 : Int32) (μ : Mem) : Option (Mem) :=
  nm (wI μ t0 7 ((μ.1 t0 7) + 1)) fun μ1 =>
  if a1 < 0 then
    some μ1
  else
    if a2 < 0 then
      some μ1
    else
      if inb a1 7 then
      if inb a1 7 then nm (wI μ1 (t0 + 13) a1.toNatClampNeg ((μ1.1 (t0 + 13) a1.toNatClampNeg) ||| ((1 : Int32) <<< (a2 &&& 31)))) fun μ2 =>
      if inb a2 7 then
      if inb a2 7 then nm (wI μ2 (t0 + 13) a2.toNatClampNeg ((μ2.1 (t0 + 13) a2.toNatClampNeg) ||| ((1 : Int32) <<< (a1 &&& 31)))) fun μ3 =>
      some μ3
      else none
      else none
      else none
      else none
set_option maxRecDepth 100000 in
theorem wX7_addFoes (t0 : Nat) (ht0 : okX7 Rf0 NF t0) (a1 : Int32) (a2 : Int32) (μ : Mem) {res : Mem} (h : fX7_addFoes t0 a1 a2 μ = some res) : Ct mX7_addFoes 1 NF NF [.ref t0, .int a1, .int a2] (μ, Rf0, NF) (QN none res Rf0 NF) := by
  unfold fX7_addFoes at h
  show RW mX7_addFoes 1 NF NF 0 [(0, .ref t0), (1, .int a1), (2, .int a2)] [] (μ, Rf0, NF) (QN none res Rf0 NF)
  refine rw_aload_n 0 dX7_addFoes_0 0 rfl ?_
  refine rw_dup 1 dX7_addFoes_1 rfl ?_
  refine rw_getI 2 7 7 kc7 dX7_addFoes_2 (o7l ht0) (o7n ht0) fX7_34 rfl ?_
  refine rw_iconst 5 (v := 1) dX7_addFoes_5 (by decide) ?_
  refine rw_iadd 6 dX7_addFoes_6 ?_
  refine rn_putI 7 7 7 kc7 dX7_addFoes_7 (o7l ht0) (o7n ht0) fX7_34 (fun q hq => by cases hq; rfl) rfl rfl rfl h (fun μ1 h => ?_)
  refine rw_iload_n 10 dX7_addFoes_10 1 rfl ?_
  refine rn_if_lt 11 42 dX7_addFoes_11 (by decide) h (fun _ h => ?_) (fun _ h => ?_)
  · exact rn_vret 42 dX7_addFoes_42 rfl h
  · refine rw_iload_n 14 dX7_addFoes_14 2 rfl ?_
    refine rn_if_lt 15 42 dX7_addFoes_15 (by decide) h (fun _ h => ?_) (fun _ h => ?_)
    · exact rn_vret 42 dX7_addFoes_42 rfl h
    · refine rw_aload_n 18 dX7_addFoes_18 0 rfl ?_
      refine rw_getR 19 7 14 kc7 dX7_addFoes_19 (o7l ht0) (o7n ht0) fX7_61 rfl (o7r14 ht0) ?_
      refine rw_iload_n 22 dX7_addFoes_22 1 rfl ?_
      refine rw_dup2 23 dX7_addFoes_23 rfl rfl ?_
      refine rn_iald 24 dX7_addFoes_24 (o7l14 ht0) (o7n14 ht0) h (fun h => ?_)
      refine rw_iconst 25 (v := 1) dX7_addFoes_25 (by decide) ?_
      refine rw_iload_n 26 dX7_addFoes_26 2 rfl ?_
      refine rw_ishl 27 dX7_addFoes_27 ?_
      refine rw_ior 28 dX7_addFoes_28 ?_
      refine rn_iast 29 dX7_addFoes_29 (o7l14 ht0) (o7n14 ht0) h (fun μ2 h => ?_)
      refine rw_aload_n 30 dX7_addFoes_30 0 rfl ?_
      refine rw_getR 31 7 14 kc7 dX7_addFoes_31 (o7l ht0) (o7n ht0) fX7_61 rfl (o7r14 ht0) ?_
      refine rw_iload_n 34 dX7_addFoes_34 2 rfl ?_
      refine rw_dup2 35 dX7_addFoes_35 rfl rfl ?_
      refine rn_iald 36 dX7_addFoes_36 (o7l14 ht0) (o7n14 ht0) h (fun h => ?_)
      refine rw_iconst 37 (v := 1) dX7_addFoes_37 (by decide) ?_
      refine rw_iload_n 38 dX7_addFoes_38 1 rfl ?_
      refine rw_ishl 39 dX7_addFoes_39 ?_
      refine rw_ior 40 dX7_addFoes_40 ?_
      refine rn_iast 41 dX7_addFoes_41 (o7l14 ht0) (o7n14 ht0) h (fun μ3 h => ?_)
      exact rn_vret 42 dX7_addFoes_42 rfl h
def fX4_readFoes (t1 : Nat) (μ : Mem) : Option (Bool × Mem) :=
  if (μ.1 t1 7) < 8 then
    (fX4_take 15 μ).bind fun q1 =>
    if q1.1 = true then
      (fX4_take 2 q1.2).bind fun q2 =>
      if q2.1 = true then
        (fX4_take 2 q2.2).bind fun q3 =>
        if q3.1 = true then
          (fX4_take 4 q3.2).bind fun q4 =>
          if q4.1 = true then
            if inb ((q4.2.1 3 3) - 3) 402 then
            (fX7_guestNamed t1 (q4.2.2 7 ((q4.2.1 3 3) - 3).toNatClampNeg) q4.2).bind fun q5 =>
            if inb ((q4.2.1 3 3) - 2) 402 then
            (fX7_guestNamed t1 (q4.2.2 7 ((q4.2.1 3 3) - 2).toNatClampNeg) q4.2).bind fun q6 =>
            if q5 < 0 then
              (fX4_keepLate 4 ((q4.2.1 3 3) - 3) q4.2).bind fun q15 =>
              (fX7_addFoes t1 q5 q6 q15).bind fun q16 =>
              some (true, q16)
            else
              if q6 < 0 then
                (fX4_keepLate 4 ((q4.2.1 3 3) - 2) q4.2).bind fun q13 =>
                (fX7_addFoes t1 q5 q6 q13).bind fun q14 =>
                some (true, q14)
              else
                if q5 = q6 then
                  (fX4_keepLate 3 ((q4.2.1 3 3) - 2) q4.2).bind fun q7 =>
                  (fX7_addFoes t1 q5 q6 q7).bind fun q8 =>
                  some (true, q8)
                else
                  (fX7_areFoes t1 q5 q6 q4.2).bind fun q9 =>
                  if q9 = true then
                    (fX4_keepLate 3 ((q4.2.1 3 3) - 2) q4.2).bind fun q11 =>
                    (fX7_addFoes t1 q5 q6 q11).bind fun q12 =>
                    some (true, q12)
                  else
                    (fX7_addFoes t1 q5 q6 q4.2).bind fun q10 =>
                    some (true, q10)
            else none
            else none
          else
            some (false, q4.2)
        else
          some (false, q3.2)
      else
        some (false, q2.2)
    else
      some (false, q1.2)
  else
    (fX4_fail 2 μ).bind fun q17 =>
    some (q17.1, q17.2)
set_option maxRecDepth 100000 in
theorem wX4_readFoes (t1 : Nat) (ht1 : okX7 Rf0 NF t1) (μ : Mem) {res : Bool × Mem} (h : fX4_readFoes t1 μ = some res) : Ct mX4_readFoes 2 NF NF [.ref 3, .ref t1] (μ, Rf0, NF) (QN (some (.int (b2i res.1))) res.2 Rf0 NF) := by
  unfold fX4_readFoes at h
  show RW mX4_readFoes 2 NF NF 0 [(0, .ref 3), (1, .ref t1)] [] (μ, Rf0, NF) (QN (some (.int (b2i res.1))) res.2 Rf0 NF)
  refine rw_aload_n 0 dX4_readFoes_0 1 rfl ?_
  refine rw_getI 1 7 7 kc7 dX4_readFoes_1 (o7l ht1) (o7n ht1) fX4_120 rfl ?_
  refine rw_bipush 4 (v := 8) dX4_readFoes_4 (by decide) ?_
  refine rn_icmp_lt 6 15 dX4_readFoes_6 (by decide) h (fun _ h => ?_) (fun _ h => ?_)
  · refine rw_aload_n 15 dX4_readFoes_15 0 rfl ?_
    refine rw_bipush 16 (v := 15) dX4_readFoes_16 (by decide) ?_
    refine rn_cVmb 18 4 [.int 15] dX4_readFoes_18 caX4_take lX4_78 inX4_take slX4_take rfl ly_3 ⟨_, rfl, rfl⟩ rln_3 naX4_take (Nat.le_of_ble_eq_true rfl) (Nat.le_of_ble_eq_true rfl) (by decide) (fun _ hq => wX4_take 15 μ hq) h (fun q1 h => ?_)
    refine rn_ifb_eq 21 48 dX4_readFoes_21 (by decide) h (fun _ h => ?_) (fun _ h => ?_)
    · refine rw_iconst 48 (v := 0) dX4_readFoes_48 (by decide) ?_
      exact rn_zret2 49 (v := false) dX4_readFoes_49 rfl h
    · refine rw_aload_n 24 dX4_readFoes_24 0 rfl ?_
      refine rw_iconst 25 (v := 2) dX4_readFoes_25 (by decide) ?_
      refine rn_cVmb 26 4 [.int 2] dX4_readFoes_26 caX4_take lX4_78 inX4_take slX4_take rfl ly_3 ⟨_, rfl, rfl⟩ rln_3 naX4_take (Nat.le_of_ble_eq_true rfl) (Nat.le_of_ble_eq_true rfl) (by decide) (fun _ hq => wX4_take 2 q1.2 hq) h (fun q2 h => ?_)
      refine rn_ifb_eq 29 48 dX4_readFoes_29 (by decide) h (fun _ h => ?_) (fun _ h => ?_)
      · refine rw_iconst 48 (v := 0) dX4_readFoes_48 (by decide) ?_
        exact rn_zret2 49 (v := false) dX4_readFoes_49 rfl h
      · refine rw_aload_n 32 dX4_readFoes_32 0 rfl ?_
        refine rw_iconst 33 (v := 2) dX4_readFoes_33 (by decide) ?_
        refine rn_cVmb 34 4 [.int 2] dX4_readFoes_34 caX4_take lX4_78 inX4_take slX4_take rfl ly_3 ⟨_, rfl, rfl⟩ rln_3 naX4_take (Nat.le_of_ble_eq_true rfl) (Nat.le_of_ble_eq_true rfl) (by decide) (fun _ hq => wX4_take 2 q2.2 hq) h (fun q3 h => ?_)
        refine rn_ifb_eq 37 48 dX4_readFoes_37 (by decide) h (fun _ h => ?_) (fun _ h => ?_)
        · refine rw_iconst 48 (v := 0) dX4_readFoes_48 (by decide) ?_
          exact rn_zret2 49 (v := false) dX4_readFoes_49 rfl h
        · refine rw_aload_n 40 dX4_readFoes_40 0 rfl ?_
          refine rw_iconst 41 (v := 4) dX4_readFoes_41 (by decide) ?_
          refine rn_cVmb 42 4 [.int 4] dX4_readFoes_42 caX4_take lX4_78 inX4_take slX4_take rfl ly_3 ⟨_, rfl, rfl⟩ rln_3 naX4_take (Nat.le_of_ble_eq_true rfl) (Nat.le_of_ble_eq_true rfl) (by decide) (fun _ hq => wX4_take 4 q3.2 hq) h (fun q4 h => ?_)
          refine rn_ifb_ne 45 50 dX4_readFoes_45 (by decide) h (fun _ h => ?_) (fun _ h => ?_)
          · refine rw_aload_n 50 dX4_readFoes_50 1 rfl ?_
            refine rw_aload_n 51 dX4_readFoes_51 0 rfl ?_
            refine rw_getR 52 4 2 kc4 dX4_readFoes_52 ly_3 rln_3 fX4_21 rfl rf_3_2 ?_
            refine rw_getR 55 8 2 kc8 dX4_readFoes_55 ly_4 rln_4 fX4_105 rfl rf_4_2 ?_
            refine rw_aload_n 58 dX4_readFoes_58 0 rfl ?_
            refine rw_getI 59 4 3 kc4 dX4_readFoes_59 ly_3 rln_3 fX4_25 rfl ?_
            refine rw_iconst 62 (v := 3) dX4_readFoes_62 (by decide) ?_
            refine rw_isub 63 dX4_readFoes_63 ?_
            refine rn_lald 64 dX4_readFoes_64 ly_7 rln_7 h (fun h => ?_)
            refine rn_cVpi 65 7 [.long (q4.2.2 7 ((q4.2.1 3 3) - 3).toNatClampNeg)] dX4_readFoes_65 caX7_guestNamed lX4_123 inX7_guestNamed slX7_guestNamed rfl (o7l ht1) ⟨_, rfl, rfl⟩ (o7n ht1) naX7_guestNamed (Nat.le_of_ble_eq_true rfl) (Nat.le_of_ble_eq_true rfl) (by decide) (fun _ hq => wX7_guestNamed t1 ht1 (q4.2.2 7 ((q4.2.1 3 3) - 3).toNatClampNeg) q4.2 hq) h (fun q5 h => ?_)
            refine rw_istore_n 68 [(0, .ref 3), (1, .ref t1), (2, .int q5)] dX4_readFoes_68 (by decide) rfl ?_
            refine rw_aload_n 69 dX4_readFoes_69 1 rfl ?_
            refine rw_aload_n 70 dX4_readFoes_70 0 rfl ?_
            refine rw_getR 71 4 2 kc4 dX4_readFoes_71 ly_3 rln_3 fX4_21 rfl rf_3_2 ?_
            refine rw_getR 74 8 2 kc8 dX4_readFoes_74 ly_4 rln_4 fX4_105 rfl rf_4_2 ?_
            refine rw_aload_n 77 dX4_readFoes_77 0 rfl ?_
            refine rw_getI 78 4 3 kc4 dX4_readFoes_78 ly_3 rln_3 fX4_25 rfl ?_
            refine rw_iconst 81 (v := 2) dX4_readFoes_81 (by decide) ?_
            refine rw_isub 82 dX4_readFoes_82 ?_
            refine rn_lald 83 dX4_readFoes_83 ly_7 rln_7 h (fun h => ?_)
            refine rn_cVpi 84 7 [.long (q4.2.2 7 ((q4.2.1 3 3) - 2).toNatClampNeg)] dX4_readFoes_84 caX7_guestNamed lX4_123 inX7_guestNamed slX7_guestNamed rfl (o7l ht1) ⟨_, rfl, rfl⟩ (o7n ht1) naX7_guestNamed (Nat.le_of_ble_eq_true rfl) (Nat.le_of_ble_eq_true rfl) (by decide) (fun _ hq => wX7_guestNamed t1 ht1 (q4.2.2 7 ((q4.2.1 3 3) - 2).toNatClampNeg) q4.2 hq) h (fun q6 h => ?_)
            refine rw_istore_n 87 [(0, .ref 3), (1, .ref t1), (2, .int q5), (3, .int q6)] dX4_readFoes_87 (by decide) rfl ?_
            refine rw_iload_n 88 dX4_readFoes_88 2 rfl ?_
            refine rn_if_ge 89 106 dX4_readFoes_89 (by decide) h (fun _ h => ?_) (fun _ h => ?_)
            · refine rw_iload_n 106 dX4_readFoes_106 3 rfl ?_
              refine rn_if_ge 107 124 dX4_readFoes_107 (by decide) h (fun _ h => ?_) (fun _ h => ?_)
              · refine rw_iload_n 124 dX4_readFoes_124 2 rfl ?_
                refine rw_iload_n 125 dX4_readFoes_125 3 rfl ?_
                refine rn_icmp_eq 126 138 dX4_readFoes_126 (by decide) h (fun _ h => ?_) (fun _ h => ?_)
                · refine rw_aload_n 138 dX4_readFoes_138 0 rfl ?_
                  refine rw_iconst 139 (v := 3) dX4_readFoes_139 (by decide) ?_
                  refine rw_aload_n 140 dX4_readFoes_140 0 rfl ?_
                  refine rw_getI 141 4 3 kc4 dX4_readFoes_141 ly_3 rln_3 fX4_25 rfl ?_
                  refine rw_iconst 144 (v := 2) dX4_readFoes_144 (by decide) ?_
                  refine rw_isub 145 dX4_readFoes_145 ?_
                  refine rn_cVmv 146 4 [.int 3, .int ((q4.2.1 3 3) - 2)] dX4_readFoes_146 caX4_keepLate lX4_127 inX4_keepLate slX4_keepLate rfl ly_3 ⟨_, rfl, rfl⟩ rln_3 naX4_keepLate (Nat.le_of_ble_eq_true rfl) (Nat.le_of_ble_eq_true rfl) (by decide) (fun _ hq => wX4_keepLate 3 ((q4.2.1 3 3) - 2) q4.2 hq) h (fun q7 h => ?_)
                  refine rw_aload_n 149 dX4_readFoes_149 1 rfl ?_
                  refine rw_iload_n 150 dX4_readFoes_150 2 rfl ?_
                  refine rw_iload_n 151 dX4_readFoes_151 3 rfl ?_
                  refine rn_cVmv 152 7 [.int q5, .int q6] dX4_readFoes_152 caX7_addFoes lX4_134 inX7_addFoes slX7_addFoes rfl (o7l ht1) ⟨_, rfl, rfl⟩ (o7n ht1) naX7_addFoes (Nat.le_of_ble_eq_true rfl) (Nat.le_of_ble_eq_true rfl) (by decide) (fun _ hq => wX7_addFoes t1 ht1 q5 q6 q7 hq) h (fun q8 h => ?_)
                  refine rw_iconst 155 (v := 1) dX4_readFoes_155 (by decide) ?_
                  exact rn_zret2 156 (v := true) dX4_readFoes_156 rfl h
                · refine rw_aload_n 129 dX4_readFoes_129 1 rfl ?_
                  refine rw_iload_n 130 dX4_readFoes_130 2 rfl ?_
                  refine rw_iload_n 131 dX4_readFoes_131 3 rfl ?_
                  refine rn_cVpb 132 7 [.int q5, .int q6] dX4_readFoes_132 caX7_areFoes lX4_131 inX7_areFoes slX7_areFoes rfl (o7l ht1) ⟨_, rfl, rfl⟩ (o7n ht1) naX7_areFoes (Nat.le_of_ble_eq_true rfl) (Nat.le_of_ble_eq_true rfl) (by decide) (fun _ hq => wX7_areFoes t1 ht1 q5 q6 q4.2 hq) h (fun q9 h => ?_)
                  refine rn_ifb_eq 135 149 dX4_readFoes_135 (by decide) h (fun _ h => ?_) (fun _ h => ?_)
                  · refine rw_aload_n 149 dX4_readFoes_149 1 rfl ?_
                    refine rw_iload_n 150 dX4_readFoes_150 2 rfl ?_
                    refine rw_iload_n 151 dX4_readFoes_151 3 rfl ?_
                    refine rn_cVmv 152 7 [.int q5, .int q6] dX4_readFoes_152 caX7_addFoes lX4_134 inX7_addFoes slX7_addFoes rfl (o7l ht1) ⟨_, rfl, rfl⟩ (o7n ht1) naX7_addFoes (Nat.le_of_ble_eq_true rfl) (Nat.le_of_ble_eq_true rfl) (by decide) (fun _ hq => wX7_addFoes t1 ht1 q5 q6 q4.2 hq) h (fun q10 h => ?_)
                    refine rw_iconst 155 (v := 1) dX4_readFoes_155 (by decide) ?_
                    exact rn_zret2 156 (v := true) dX4_readFoes_156 rfl h
                  · refine rw_aload_n 138 dX4_readFoes_138 0 rfl ?_
                    refine rw_iconst 139 (v := 3) dX4_readFoes_139 (by decide) ?_
                    refine rw_aload_n 140 dX4_readFoes_140 0 rfl ?_
                    refine rw_getI 141 4 3 kc4 dX4_readFoes_141 ly_3 rln_3 fX4_25 rfl ?_
                    refine rw_iconst 144 (v := 2) dX4_readFoes_144 (by decide) ?_
                    refine rw_isub 145 dX4_readFoes_145 ?_
                    refine rn_cVmv 146 4 [.int 3, .int ((q4.2.1 3 3) - 2)] dX4_readFoes_146 caX4_keepLate lX4_127 inX4_keepLate slX4_keepLate rfl ly_3 ⟨_, rfl, rfl⟩ rln_3 naX4_keepLate (Nat.le_of_ble_eq_true rfl) (Nat.le_of_ble_eq_true rfl) (by decide) (fun _ hq => wX4_keepLate 3 ((q4.2.1 3 3) - 2) q4.2 hq) h (fun q11 h => ?_)
                    refine rw_aload_n 149 dX4_readFoes_149 1 rfl ?_
                    refine rw_iload_n 150 dX4_readFoes_150 2 rfl ?_
                    refine rw_iload_n 151 dX4_readFoes_151 3 rfl ?_
                    refine rn_cVmv 152 7 [.int q5, .int q6] dX4_readFoes_152 caX7_addFoes lX4_134 inX7_addFoes slX7_addFoes rfl (o7l ht1) ⟨_, rfl, rfl⟩ (o7n ht1) naX7_addFoes (Nat.le_of_ble_eq_true rfl) (Nat.le_of_ble_eq_true rfl) (by decide) (fun _ hq => wX7_addFoes t1 ht1 q5 q6 q11 hq) h (fun q12 h => ?_)
                    refine rw_iconst 155 (v := 1) dX4_readFoes_155 (by decide) ?_
                    exact rn_zret2 156 (v := true) dX4_readFoes_156 rfl h
              · refine rw_aload_n 110 dX4_readFoes_110 0 rfl ?_
                refine rw_iconst 111 (v := 4) dX4_readFoes_111 (by decide) ?_
                refine rw_aload_n 112 dX4_readFoes_112 0 rfl ?_
                refine rw_getI 113 4 3 kc4 dX4_readFoes_113 ly_3 rln_3 fX4_25 rfl ?_
                refine rw_iconst 116 (v := 2) dX4_readFoes_116 (by decide) ?_
                refine rw_isub 117 dX4_readFoes_117 ?_
                refine rn_cVmv 118 4 [.int 4, .int ((q4.2.1 3 3) - 2)] dX4_readFoes_118 caX4_keepLate lX4_127 inX4_keepLate slX4_keepLate rfl ly_3 ⟨_, rfl, rfl⟩ rln_3 naX4_keepLate (Nat.le_of_ble_eq_true rfl) (Nat.le_of_ble_eq_true rfl) (by decide) (fun _ hq => wX4_keepLate 4 ((q4.2.1 3 3) - 2) q4.2 hq) h (fun q13 h => ?_)
                refine rw_goto 121 149 dX4_readFoes_121 (by decide) ?_
                refine rw_aload_n 149 dX4_readFoes_149 1 rfl ?_
                refine rw_iload_n 150 dX4_readFoes_150 2 rfl ?_
                refine rw_iload_n 151 dX4_readFoes_151 3 rfl ?_
                refine rn_cVmv 152 7 [.int q5, .int q6] dX4_readFoes_152 caX7_addFoes lX4_134 inX7_addFoes slX7_addFoes rfl (o7l ht1) ⟨_, rfl, rfl⟩ (o7n ht1) naX7_addFoes (Nat.le_of_ble_eq_true rfl) (Nat.le_of_ble_eq_true rfl) (by decide) (fun _ hq => wX7_addFoes t1 ht1 q5 q6 q13 hq) h (fun q14 h => ?_)
                refine rw_iconst 155 (v := 1) dX4_readFoes_155 (by decide) ?_
                exact rn_zret2 156 (v := true) dX4_readFoes_156 rfl h
            · refine rw_aload_n 92 dX4_readFoes_92 0 rfl ?_
              refine rw_iconst 93 (v := 4) dX4_readFoes_93 (by decide) ?_
              refine rw_aload_n 94 dX4_readFoes_94 0 rfl ?_
              refine rw_getI 95 4 3 kc4 dX4_readFoes_95 ly_3 rln_3 fX4_25 rfl ?_
              refine rw_iconst 98 (v := 3) dX4_readFoes_98 (by decide) ?_
              refine rw_isub 99 dX4_readFoes_99 ?_
              refine rn_cVmv 100 4 [.int 4, .int ((q4.2.1 3 3) - 3)] dX4_readFoes_100 caX4_keepLate lX4_127 inX4_keepLate slX4_keepLate rfl ly_3 ⟨_, rfl, rfl⟩ rln_3 naX4_keepLate (Nat.le_of_ble_eq_true rfl) (Nat.le_of_ble_eq_true rfl) (by decide) (fun _ hq => wX4_keepLate 4 ((q4.2.1 3 3) - 3) q4.2 hq) h (fun q15 h => ?_)
              refine rw_goto 103 149 dX4_readFoes_103 (by decide) ?_
              refine rw_aload_n 149 dX4_readFoes_149 1 rfl ?_
              refine rw_iload_n 150 dX4_readFoes_150 2 rfl ?_
              refine rw_iload_n 151 dX4_readFoes_151 3 rfl ?_
              refine rn_cVmv 152 7 [.int q5, .int q6] dX4_readFoes_152 caX7_addFoes lX4_134 inX7_addFoes slX7_addFoes rfl (o7l ht1) ⟨_, rfl, rfl⟩ (o7n ht1) naX7_addFoes (Nat.le_of_ble_eq_true rfl) (Nat.le_of_ble_eq_true rfl) (by decide) (fun _ hq => wX7_addFoes t1 ht1 q5 q6 q15 hq) h (fun q16 h => ?_)
              refine rw_iconst 155 (v := 1) dX4_readFoes_155 (by decide) ?_
              exact rn_zret2 156 (v := true) dX4_readFoes_156 rfl h
          · refine rw_iconst 48 (v := 0) dX4_readFoes_48 (by decide) ?_
            exact rn_zret2 49 (v := false) dX4_readFoes_49 rfl h
  · refine rw_aload_n 9 dX4_readFoes_9 0 rfl ?_
    refine rw_iconst 10 (v := 2) dX4_readFoes_10 (by decide) ?_
    refine rn_cVmb 11 4 [.int 2] dX4_readFoes_11 caX4_fail lX4_96 inX4_fail slX4_fail rfl ly_3 ⟨_, rfl, rfl⟩ rln_3 naX4_fail (Nat.le_of_ble_eq_true rfl) (Nat.le_of_ble_eq_true rfl) (by decide) (fun _ hq => wX4_fail 2 μ hq) h (fun q17 h => ?_)
    exact rn_zret2 14 (v := q17.1) dX4_readFoes_14 rfl h
def fX4_readUnit_j87 (rec : Nat → Int32 → Mem → Option (Bool × Mem)) (t1 : Nat)    (μ : Mem) : Option (Bool × Mem) :=
  (fX4_take 3 μ).bind fun q2 =>
  if q2.1 = true then
    (fX4_intBehind 1 q2.2).bind fun q3 =>
    (fX2_add t1 3 q3 q2.2).bind fun q4 =>
    some (true, q4.2)
  else
    some (false, q2.2)
def fX4_readUnit_o (rec : Nat → Int32 → Mem → Option (Bool × Mem)) (t1 : Nat) (a2 : Int32) (μ : Mem) : Option (Bool × Mem) :=
  (fX4_kind μ).bind fun q1 =>
  if q1 = 11 then
    if a2 < 6 then
      (fX4_take 11 μ).bind fun q7 =>
      if q7.1 = true then
        (rec t1 (a2 + 1) q7.2).bind fun q8 =>
        if q8.1 = true then
          (fX4_take 12 q8.2).bind fun q9 =>
          if q9.1 = true then
            some (true, q9.2)
          else
            some (false, q9.2)
        else
          some (false, q8.2)
      else
        some (false, q7.2)
    else
      (fX4_fail 2 μ).bind fun q10 =>
      some (q10.1, q10.2)
  else
    if q1 < 25 then
      fX4_readUnit_j87 rec t1 μ
    else
      if 33 < q1 then
        fX4_readUnit_j87 rec t1 μ
      else
        (fX2_add t1 13 (q1 - 25) μ).bind fun q5 =>
        (fX4_take q1 q5.2).bind fun q6 =>
        some (q6.1, q6.2)
set_option maxRecDepth 100000 in
theorem wX4_readUnit_j87 (rec : Nat → Int32 → Mem → Option (Bool × Mem)) (dd ds : Nat) (hdd : ds < dd) (h10 : 10 < dd) (hrec : ∀ (t : Nat) (ht : okX2 Rf0 NF t) (a : Int32) (μ : Mem) {q : Bool × Mem}, rec t a μ = some q → Ct mX4_readSum ds NF NF [.ref 3, .ref t, .int a] (μ, Rf0, NF) (QN (some (.int (b2i q.1))) q.2 Rf0 NF)) (t1 : Nat) (ht1 : okX2 Rf0 NF t1)  {res : Bool × Mem}  (μ : Mem)  (h : fX4_readUnit_j87 rec t1 μ = some res) : RW mX4_readUnit dd NF NF 87 [(0, .ref 3), (1, .ref t1)] [] (μ, Rf0, NF) (QN (some (.int (b2i res.1))) res.2 Rf0 NF) := by
  unfold fX4_readUnit_j87 at h
  refine rw_aload_n 87 dX4_readUnit_87 0 rfl ?_
  refine rw_iconst 88 (v := 3) dX4_readUnit_88 (by decide) ?_
  refine rn_cVmb 89 4 [.int 3] dX4_readUnit_89 caX4_take lX4_78 inX4_take slX4_take rfl ly_3 ⟨_, rfl, rfl⟩ rln_3 naX4_take (Nat.le_of_ble_eq_true rfl) (Nat.le_of_ble_eq_true rfl) (by omega) (fun _ hq => wX4_take 3 μ hq) h (fun q2 h => ?_)
  refine rn_ifb_ne 92 97 dX4_readUnit_92 (by decide) h (fun _ h => ?_) (fun _ h => ?_)
  · refine rw_aload_n 97 dX4_readUnit_97 1 rfl ?_
    refine rw_iconst 98 (v := 3) dX4_readUnit_98 (by decide) ?_
    refine rw_aload_n 99 dX4_readUnit_99 0 rfl ?_
    refine rw_iconst 100 (v := 1) dX4_readUnit_100 (by decide) ?_
    refine rn_cVpi 101 4 [.int 1] dX4_readUnit_101 caX4_intBehind lX4_86 inX4_intBehind slX4_intBehind rfl ly_3 ⟨_, rfl, rfl⟩ rln_3 naX4_intBehind (Nat.le_of_ble_eq_true rfl) (Nat.le_of_ble_eq_true rfl) (by omega) (fun _ hq => wX4_intBehind 1 q2.2 hq) h (fun q3 h => ?_)
    refine rn_cVmi 104 2 [.int 3, .int q3] dX4_readUnit_104 caX2_add lX4_146 inX2_add slX2_add rfl (o2l ht1) ⟨_, rfl, rfl⟩ (o2n ht1) naX2_add (Nat.le_of_ble_eq_true rfl) (Nat.le_of_ble_eq_true rfl) (by omega) (fun _ hq => wX2_add t1 ht1 3 q3 q2.2 hq) h (fun q4 h => ?_)
    refine rw_pop 107 dX4_readUnit_107 rfl ?_
    refine rw_iconst 108 (v := 1) dX4_readUnit_108 (by decide) ?_
    exact rn_zret2 109 (v := true) dX4_readUnit_109 rfl h
  · refine rw_iconst 95 (v := 0) dX4_readUnit_95 (by decide) ?_
    exact rn_zret2 96 (v := false) dX4_readUnit_96 rfl h
set_option maxRecDepth 100000 in
theorem wX4_readUnit_o (rec : Nat → Int32 → Mem → Option (Bool × Mem)) (dd ds : Nat) (hdd : ds < dd) (h10 : 10 < dd) (hrec : ∀ (t : Nat) (ht : okX2 Rf0 NF t) (a : Int32) (μ : Mem) {q : Bool × Mem}, rec t a μ = some q → Ct mX4_readSum ds NF NF [.ref 3, .ref t, .int a] (μ, Rf0, NF) (QN (some (.int (b2i q.1))) q.2 Rf0 NF)) (t1 : Nat) (ht1 : okX2 Rf0 NF t1) (a2 : Int32) (μ : Mem) {res : Bool × Mem} (h : fX4_readUnit_o rec t1 a2 μ = some res) : Ct mX4_readUnit dd NF NF [.ref 3, .ref t1, .int a2] (μ, Rf0, NF) (QN (some (.int (b2i res.1))) res.2 Rf0 NF) := by
  unfold fX4_readUnit_o at h
  show RW mX4_readUnit dd NF NF 0 [(0, .ref 3), (1, .ref t1), (2, .int a2)] [] (μ, Rf0, NF) (QN (some (.int (b2i res.1))) res.2 Rf0 NF)
  refine rw_aload_n 0 dX4_readUnit_0 0 rfl ?_
  refine rn_cVpi 1 4 [] dX4_readUnit_1 caX4_kind lX4_43 inX4_kind slX4_kind rfl ly_3 ⟨_, rfl, rfl⟩ rln_3 naX4_kind (Nat.le_of_ble_eq_true rfl) (Nat.le_of_ble_eq_true rfl) (by omega) (fun _ hq => wX4_kind μ hq) h (fun q1 h => ?_)
  refine rw_istore_n 4 [(0, .ref 3), (1, .ref t1), (2, .int a2), (3, .int q1)] dX4_readUnit_4 (by decide) rfl ?_
  refine rw_iload_n 5 dX4_readUnit_5 3 rfl ?_
  refine rw_bipush 6 (v := 11) dX4_readUnit_6 (by decide) ?_
  refine rn_icmp_ne 8 58 dX4_readUnit_8 (by decide) h (fun _ h => ?_) (fun _ h => ?_)
  · refine rw_iload_n 58 dX4_readUnit_58 3 rfl ?_
    refine rw_bipush 59 (v := 25) dX4_readUnit_59 (by decide) ?_
    refine rn_icmp_lt 61 87 dX4_readUnit_61 (by decide) h (fun _ h => ?_) (fun _ h => ?_)
    · refine rw_pick 87 [0, 1] rfl ?_
      exact wX4_readUnit_j87 rec dd ds hdd h10 hrec t1 ht1 μ h
    · refine rw_iload_n 64 dX4_readUnit_64 3 rfl ?_
      refine rw_bipush 65 (v := 33) dX4_readUnit_65 (by decide) ?_
      refine rn_icmp_gt 67 87 dX4_readUnit_67 (by decide) h (fun _ h => ?_) (fun _ h => ?_)
      · refine rw_pick 87 [0, 1] rfl ?_
        exact wX4_readUnit_j87 rec dd ds hdd h10 hrec t1 ht1 μ h
      · refine rw_aload_n 70 dX4_readUnit_70 1 rfl ?_
        refine rw_bipush 71 (v := 13) dX4_readUnit_71 (by decide) ?_
        refine rw_iload_n 73 dX4_readUnit_73 3 rfl ?_
        refine rw_bipush 74 (v := 25) dX4_readUnit_74 (by decide) ?_
        refine rw_isub 76 dX4_readUnit_76 ?_
        refine rn_cVmi 77 2 [.int 13, .int (q1 - 25)] dX4_readUnit_77 caX2_add lX4_146 inX2_add slX2_add rfl (o2l ht1) ⟨_, rfl, rfl⟩ (o2n ht1) naX2_add (Nat.le_of_ble_eq_true rfl) (Nat.le_of_ble_eq_true rfl) (by omega) (fun _ hq => wX2_add t1 ht1 13 (q1 - 25) μ hq) h (fun q5 h => ?_)
        refine rw_pop 80 dX4_readUnit_80 rfl ?_
        refine rw_aload_n 81 dX4_readUnit_81 0 rfl ?_
        refine rw_iload_n 82 dX4_readUnit_82 3 rfl ?_
        refine rn_cVmb 83 4 [.int q1] dX4_readUnit_83 caX4_take lX4_78 inX4_take slX4_take rfl ly_3 ⟨_, rfl, rfl⟩ rln_3 naX4_take (Nat.le_of_ble_eq_true rfl) (Nat.le_of_ble_eq_true rfl) (by omega) (fun _ hq => wX4_take q1 q5.2 hq) h (fun q6 h => ?_)
        exact rn_zret2 86 (v := q6.1) dX4_readUnit_86 rfl h
  · refine rw_iload_n 11 dX4_readUnit_11 2 rfl ?_
    refine rw_bipush 12 (v := 6) dX4_readUnit_12 (by decide) ?_
    refine rn_icmp_lt 14 23 dX4_readUnit_14 (by decide) h (fun _ h => ?_) (fun _ h => ?_)
    · refine rw_aload_n 23 dX4_readUnit_23 0 rfl ?_
      refine rw_bipush 24 (v := 11) dX4_readUnit_24 (by decide) ?_
      refine rn_cVmb 26 4 [.int 11] dX4_readUnit_26 caX4_take lX4_78 inX4_take slX4_take rfl ly_3 ⟨_, rfl, rfl⟩ rln_3 naX4_take (Nat.le_of_ble_eq_true rfl) (Nat.le_of_ble_eq_true rfl) (by omega) (fun _ hq => wX4_take 11 μ hq) h (fun q7 h => ?_)
      refine rn_ifb_eq 29 56 dX4_readUnit_29 (by decide) h (fun _ h => ?_) (fun _ h => ?_)
      · refine rw_iconst 56 (v := 0) dX4_readUnit_56 (by decide) ?_
        exact rn_zret2 57 (v := false) dX4_readUnit_57 rfl h
      · refine rw_aload_n 32 dX4_readUnit_32 0 rfl ?_
        refine rw_aload_n 33 dX4_readUnit_33 1 rfl ?_
        refine rw_iload_n 34 dX4_readUnit_34 2 rfl ?_
        refine rw_iconst 35 (v := 1) dX4_readUnit_35 (by decide) ?_
        refine rw_iadd 36 dX4_readUnit_36 ?_
        refine rn_cVmb 37 4 [.ref t1, .int (a2 + 1)] dX4_readUnit_37 caX4_readSum lX4_143 inX4_readSum slX4_readSum rfl ly_3 ⟨_, rfl, rfl⟩ rln_3 naX4_readSum (Nat.le_of_ble_eq_true rfl) (Nat.le_of_ble_eq_true rfl) (by omega) (fun _ hq => hrec t1 ht1 (a2 + 1) q7.2 hq) h (fun q8 h => ?_)
        refine rn_ifb_eq 40 56 dX4_readUnit_40 (by decide) h (fun _ h => ?_) (fun _ h => ?_)
        · refine rw_iconst 56 (v := 0) dX4_readUnit_56 (by decide) ?_
          exact rn_zret2 57 (v := false) dX4_readUnit_57 rfl h
        · refine rw_aload_n 43 dX4_readUnit_43 0 rfl ?_
          refine rw_bipush 44 (v := 12) dX4_readUnit_44 (by decide) ?_
          refine rn_cVmb 46 4 [.int 12] dX4_readUnit_46 caX4_take lX4_78 inX4_take slX4_take rfl ly_3 ⟨_, rfl, rfl⟩ rln_3 naX4_take (Nat.le_of_ble_eq_true rfl) (Nat.le_of_ble_eq_true rfl) (by omega) (fun _ hq => wX4_take 12 q8.2 hq) h (fun q9 h => ?_)
          refine rn_ifb_eq 49 56 dX4_readUnit_49 (by decide) h (fun _ h => ?_) (fun _ h => ?_)
          · refine rw_iconst 56 (v := 0) dX4_readUnit_56 (by decide) ?_
            exact rn_zret2 57 (v := false) dX4_readUnit_57 rfl h
          · refine rw_iconst 52 (v := 1) dX4_readUnit_52 (by decide) ?_
            refine rw_goto 53 57 dX4_readUnit_53 (by decide) ?_
            exact rn_zret2 57 (v := true) dX4_readUnit_57 rfl h
    · refine rw_aload_n 17 dX4_readUnit_17 0 rfl ?_
      refine rw_iconst 18 (v := 2) dX4_readUnit_18 (by decide) ?_
      refine rn_cVmb 19 4 [.int 2] dX4_readUnit_19 caX4_fail lX4_96 inX4_fail slX4_fail rfl ly_3 ⟨_, rfl, rfl⟩ rln_3 naX4_fail (Nat.le_of_ble_eq_true rfl) (Nat.le_of_ble_eq_true rfl) (by omega) (fun _ hq => wX4_fail 2 μ hq) h (fun q10 h => ?_)
      exact rn_zret2 22 (v := q10.1) dX4_readUnit_22 rfl h
def fX4_readProduct_j38_13 (rec : Nat → Int32 → Mem → Option (Bool × Mem)) (t1 : Nat)  (KB : Int32 → Mem → Option (Bool × Mem)) (K : Mem → Option (Bool × Mem)) (v2 : Int32) (v3 : Int32) (μ : Mem) : Option (Bool × Mem) :=
  (fX4_kind μ).bind fun q3 =>
  (fX4_take q3 μ).bind fun q4 =>
  if q4.1 = true then
    (rec t1 v2 q4.2).bind fun q5 =>
    if q5.1 = true then
      (fX2_add t1 q3 0 q5.2).bind fun q6 =>
      KB (v3 + 1) q6.2
    else
      some (false, q5.2)
  else
    some (false, q4.2)
def fX4_readProduct_13 (rec : Nat → Int32 → Mem → Option (Bool × Mem)) (t1 : Nat)  (v2 : Int32)  (K : Mem → Option (Bool × Mem)) : Nat → Int32 → Mem → Option (Bool × Mem)
  | 0, _, _ => none
  | n + 1, v3, μ =>
    if v3 < 400 then
      (fX4_kind μ).bind fun q2 =>
      if q2 = 8 then
        fX4_readProduct_j38_13 rec t1 (fun z0 zm => fX4_readProduct_13 rec t1 v2 K n z0 zm) K v2 v3 μ
      else
        (fX4_kind μ).bind fun q7 =>
        if q7 = 9 then
          fX4_readProduct_j38_13 rec t1 (fun z0 zm => fX4_readProduct_13 rec t1 v2 K n z0 zm) K v2 v3 μ
        else
          K μ
    else
      K μ
def fX4_readProduct_o (rec : Nat → Int32 → Mem → Option (Bool × Mem)) (t1 : Nat) (a2 : Int32) (μ : Mem) : Option (Bool × Mem) :=
  (rec t1 a2 μ).bind fun q1 =>
  if q1.1 = true then
    fX4_readProduct_13 rec t1 a2 (fun μ8 =>
        some (true, μ8)
    ) FU 0 q1.2
  else
    some (false, q1.2)
set_option maxRecDepth 100000 in
theorem wX4_readProduct_j38_13 (rec : Nat → Int32 → Mem → Option (Bool × Mem)) (dd ds : Nat) (hdd : ds < dd) (h10 : 10 < dd) (hrec : ∀ (t : Nat) (ht : okX2 Rf0 NF t) (a : Int32) (μ : Mem) {q : Bool × Mem}, rec t a μ = some q → Ct mX4_readUnit ds NF NF [.ref 3, .ref t, .int a] (μ, Rf0, NF) (QN (some (.int (b2i q.1))) q.2 Rf0 NF)) (t1 : Nat) (ht1 : okX2 Rf0 NF t1)  {res : Bool × Mem} (v2 : Int32) (v3 : Int32) (μ : Mem) (KB : Int32 → Mem → Option (Bool × Mem)) (hB : ∀ (u3 : Int32) (um : Mem), KB u3 um = some res → RW mX4_readProduct dd NF NF 13 [(0, .ref 3), (1, .ref t1), (2, .int v2), (3, .int u3)] [] (um, Rf0, NF) (QN (some (.int (b2i res.1))) res.2 Rf0 NF)) (K : Mem → Option (Bool × Mem)) (hK : ∀ (um : Mem), K um = some res → RW mX4_readProduct dd NF NF 78 [] [] (um, Rf0, NF) (QN (some (.int (b2i res.1))) res.2 Rf0 NF)) (h : fX4_readProduct_j38_13 rec t1 KB K v2 v3 μ = some res) : RW mX4_readProduct dd NF NF 38 [(0, .ref 3), (1, .ref t1), (2, .int v2), (3, .int v3)] [] (μ, Rf0, NF) (QN (some (.int (b2i res.1))) res.2 Rf0 NF) := by
  unfold fX4_readProduct_j38_13 at h
  refine rw_aload_n 38 dX4_readProduct_38 0 rfl ?_
  refine rn_cVpi 39 4 [] dX4_readProduct_39 caX4_kind lX4_43 inX4_kind slX4_kind rfl ly_3 ⟨_, rfl, rfl⟩ rln_3 naX4_kind (Nat.le_of_ble_eq_true rfl) (Nat.le_of_ble_eq_true rfl) (by omega) (fun _ hq => wX4_kind μ hq) h (fun q3 h => ?_)
  refine rw_istore 42 [(0, .ref 3), (1, .ref t1), (2, .int v2), (3, .int v3), (4, .int q3)] dX4_readProduct_42 (by decide) rfl ?_
  refine rw_aload_n 44 dX4_readProduct_44 0 rfl ?_
  refine rw_iload 45 dX4_readProduct_45 4 rfl ?_
  refine rn_cVmb 47 4 [.int q3] dX4_readProduct_47 caX4_take lX4_78 inX4_take slX4_take rfl ly_3 ⟨_, rfl, rfl⟩ rln_3 naX4_take (Nat.le_of_ble_eq_true rfl) (Nat.le_of_ble_eq_true rfl) (by omega) (fun _ hq => wX4_take q3 μ hq) h (fun q4 h => ?_)
  refine rn_ifb_eq 50 62 dX4_readProduct_50 (by decide) h (fun _ h => ?_) (fun _ h => ?_)
  · refine rw_iconst 62 (v := 0) dX4_readProduct_62 (by decide) ?_
    exact rn_zret2 63 (v := false) dX4_readProduct_63 rfl h
  · refine rw_aload_n 53 dX4_readProduct_53 0 rfl ?_
    refine rw_aload_n 54 dX4_readProduct_54 1 rfl ?_
    refine rw_iload_n 55 dX4_readProduct_55 2 rfl ?_
    refine rn_cVmb 56 4 [.ref t1, .int v2] dX4_readProduct_56 caX4_readUnit lX4_156 inX4_readUnit slX4_readUnit rfl ly_3 ⟨_, rfl, rfl⟩ rln_3 naX4_readUnit (Nat.le_of_ble_eq_true rfl) (Nat.le_of_ble_eq_true rfl) (by omega) (fun _ hq => hrec t1 ht1 v2 q4.2 hq) h (fun q5 h => ?_)
    refine rn_ifb_ne 59 64 dX4_readProduct_59 (by decide) h (fun _ h => ?_) (fun _ h => ?_)
    · refine rw_aload_n 64 dX4_readProduct_64 1 rfl ?_
      refine rw_iload 65 dX4_readProduct_65 4 rfl ?_
      refine rw_iconst 67 (v := 0) dX4_readProduct_67 (by decide) ?_
      refine rn_cVmi 68 2 [.int q3, .int 0] dX4_readProduct_68 caX2_add lX4_146 inX2_add slX2_add rfl (o2l ht1) ⟨_, rfl, rfl⟩ (o2n ht1) naX2_add (Nat.le_of_ble_eq_true rfl) (Nat.le_of_ble_eq_true rfl) (by omega) (fun _ hq => wX2_add t1 ht1 q3 0 q5.2 hq) h (fun q6 h => ?_)
      refine rw_pop 71 dX4_readProduct_71 rfl ?_
      refine rw_iinc 72 [(0, .ref 3), (1, .ref t1), (2, .int v2), (3, .int (v3 + 1)), (4, .int q3)] dX4_readProduct_72 3 rfl rfl (by decide) rfl ?_
      refine rw_goto 75 13 dX4_readProduct_75 (by decide) ?_
      refine rw_pick 13 [0, 1, 2, 3] rfl ?_
      exact hB (v3 + 1) q6.2 h
    · refine rw_iconst 62 (v := 0) dX4_readProduct_62 (by decide) ?_
      exact rn_zret2 63 (v := false) dX4_readProduct_63 rfl h
set_option maxRecDepth 100000 in
theorem wX4_readProduct_13 (rec : Nat → Int32 → Mem → Option (Bool × Mem)) (dd ds : Nat) (hdd : ds < dd) (h10 : 10 < dd) (hrec : ∀ (t : Nat) (ht : okX2 Rf0 NF t) (a : Int32) (μ : Mem) {q : Bool × Mem}, rec t a μ = some q → Ct mX4_readUnit ds NF NF [.ref 3, .ref t, .int a] (μ, Rf0, NF) (QN (some (.int (b2i q.1))) q.2 Rf0 NF)) (t1 : Nat) (ht1 : okX2 Rf0 NF t1)  (v2 : Int32)  (K : Mem → Option (Bool × Mem)) {res : Bool × Mem} (hK : ∀  (μ : Mem), K μ = some res → RW mX4_readProduct dd NF NF 78 [] [] (μ, Rf0, NF) (QN (some (.int (b2i res.1))) res.2 Rf0 NF)) : ∀ (n9 : Nat) (v3 : Int32) (μ : Mem), fX4_readProduct_13 rec t1 v2 K n9 v3 μ = some res → RW mX4_readProduct dd NF NF 13 [(0, .ref 3), (1, .ref t1), (2, .int v2), (3, .int v3)] [] (μ, Rf0, NF) (QN (some (.int (b2i res.1))) res.2 Rf0 NF) := by
  intro n9
  induction n9 with
  | zero => intro _ _ h; cases h
  | succ n ih =>
    intro v3 μ h
    unfold fX4_readProduct_13 at h
    refine rw_iload_n 13 dX4_readProduct_13 3 rfl ?_
    refine rw_sipush 14 (v := 400) dX4_readProduct_14 (by decide) ?_
    refine rn_icmp_ge 17 78 dX4_readProduct_17 (by decide) h (fun _ h => ?_) (fun _ h => ?_)
    · refine rw_pick 78 [] rfl ?_
      exact hK μ h
    · refine rw_aload_n 20 dX4_readProduct_20 0 rfl ?_
      refine rn_cVpi 21 4 [] dX4_readProduct_21 caX4_kind lX4_43 inX4_kind slX4_kind rfl ly_3 ⟨_, rfl, rfl⟩ rln_3 naX4_kind (Nat.le_of_ble_eq_true rfl) (Nat.le_of_ble_eq_true rfl) (by omega) (fun _ hq => wX4_kind μ hq) h (fun q2 h => ?_)
      refine rw_bipush 24 (v := 8) dX4_readProduct_24 (by decide) ?_
      refine rn_icmp_eq 26 38 dX4_readProduct_26 (by decide) h (fun _ h => ?_) (fun _ h => ?_)
      · exact wX4_readProduct_j38_13 rec dd ds hdd h10 hrec t1 ht1 v2 v3 μ _ (fun z0 zm h => ih z0 zm h) K hK h
      · refine rw_aload_n 29 dX4_readProduct_29 0 rfl ?_
        refine rn_cVpi 30 4 [] dX4_readProduct_30 caX4_kind lX4_43 inX4_kind slX4_kind rfl ly_3 ⟨_, rfl, rfl⟩ rln_3 naX4_kind (Nat.le_of_ble_eq_true rfl) (Nat.le_of_ble_eq_true rfl) (by omega) (fun _ hq => wX4_kind μ hq) h (fun q7 h => ?_)
        refine rw_bipush 33 (v := 9) dX4_readProduct_33 (by decide) ?_
        refine rn_icmp_ne 35 78 dX4_readProduct_35 (by decide) h (fun _ h => ?_) (fun _ h => ?_)
        · refine rw_pick 78 [] rfl ?_
          exact hK μ h
        · exact wX4_readProduct_j38_13 rec dd ds hdd h10 hrec t1 ht1 v2 v3 μ _ (fun z0 zm h => ih z0 zm h) K hK h
set_option maxRecDepth 100000 in
theorem wX4_readProduct_o (rec : Nat → Int32 → Mem → Option (Bool × Mem)) (dd ds : Nat) (hdd : ds < dd) (h10 : 10 < dd) (hrec : ∀ (t : Nat) (ht : okX2 Rf0 NF t) (a : Int32) (μ : Mem) {q : Bool × Mem}, rec t a μ = some q → Ct mX4_readUnit ds NF NF [.ref 3, .ref t, .int a] (μ, Rf0, NF) (QN (some (.int (b2i q.1))) q.2 Rf0 NF)) (t1 : Nat) (ht1 : okX2 Rf0 NF t1) (a2 : Int32) (μ : Mem) {res : Bool × Mem} (h : fX4_readProduct_o rec t1 a2 μ = some res) : Ct mX4_readProduct dd NF NF [.ref 3, .ref t1, .int a2] (μ, Rf0, NF) (QN (some (.int (b2i res.1))) res.2 Rf0 NF) := by
  unfold fX4_readProduct_o at h
  show RW mX4_readProduct dd NF NF 0 [(0, .ref 3), (1, .ref t1), (2, .int a2)] [] (μ, Rf0, NF) (QN (some (.int (b2i res.1))) res.2 Rf0 NF)
  refine rw_aload_n 0 dX4_readProduct_0 0 rfl ?_
  refine rw_aload_n 1 dX4_readProduct_1 1 rfl ?_
  refine rw_iload_n 2 dX4_readProduct_2 2 rfl ?_
  refine rn_cVmb 3 4 [.ref t1, .int a2] dX4_readProduct_3 caX4_readUnit lX4_156 inX4_readUnit slX4_readUnit rfl ly_3 ⟨_, rfl, rfl⟩ rln_3 naX4_readUnit (Nat.le_of_ble_eq_true rfl) (Nat.le_of_ble_eq_true rfl) (by omega) (fun _ hq => hrec t1 ht1 a2 μ hq) h (fun q1 h => ?_)
  refine rn_ifb_ne 6 11 dX4_readProduct_6 (by decide) h (fun _ h => ?_) (fun _ h => ?_)
  · refine rw_iconst 11 (v := 0) dX4_readProduct_11 (by decide) ?_
    refine rw_istore_n 12 [(0, .ref 3), (1, .ref t1), (2, .int a2), (3, .int 0)] dX4_readProduct_12 (by decide) rfl ?_
    refine wX4_readProduct_13 rec dd ds hdd h10 hrec t1 ht1 a2 _ (fun μ8 h => ?_) FU 0 q1.2 h
    refine rw_iconst 78 (v := 1) dX4_readProduct_78 (by decide) ?_
    exact rn_zret2 79 (v := true) dX4_readProduct_79 rfl h
  · refine rw_iconst 9 (v := 0) dX4_readProduct_9 (by decide) ?_
    exact rn_zret2 10 (v := false) dX4_readProduct_10 rfl h
def fX4_readSum_j38_13 (rec : Nat → Int32 → Mem → Option (Bool × Mem)) (t1 : Nat)  (KB : Int32 → Mem → Option (Bool × Mem)) (K : Mem → Option (Bool × Mem)) (v2 : Int32) (v3 : Int32) (μ : Mem) : Option (Bool × Mem) :=
  (fX4_kind μ).bind fun q3 =>
  (fX4_take q3 μ).bind fun q4 =>
  if q4.1 = true then
    (rec t1 v2 q4.2).bind fun q5 =>
    if q5.1 = true then
      (fX2_add t1 q3 0 q5.2).bind fun q6 =>
      KB (v3 + 1) q6.2
    else
      some (false, q5.2)
  else
    some (false, q4.2)
def fX4_readSum_13 (rec : Nat → Int32 → Mem → Option (Bool × Mem)) (t1 : Nat)  (v2 : Int32)  (K : Mem → Option (Bool × Mem)) : Nat → Int32 → Mem → Option (Bool × Mem)
  | 0, _, _ => none
  | n + 1, v3, μ =>
    if v3 < 400 then
      (fX4_kind μ).bind fun q2 =>
      if q2 = 6 then
        fX4_readSum_j38_13 rec t1 (fun z0 zm => fX4_readSum_13 rec t1 v2 K n z0 zm) K v2 v3 μ
      else
        (fX4_kind μ).bind fun q7 =>
        if q7 = 7 then
          fX4_readSum_j38_13 rec t1 (fun z0 zm => fX4_readSum_13 rec t1 v2 K n z0 zm) K v2 v3 μ
        else
          K μ
    else
      K μ
def fX4_readSum_o (rec : Nat → Int32 → Mem → Option (Bool × Mem)) (t1 : Nat) (a2 : Int32) (μ : Mem) : Option (Bool × Mem) :=
  (rec t1 a2 μ).bind fun q1 =>
  if q1.1 = true then
    fX4_readSum_13 rec t1 a2 (fun μ8 =>
        some (true, μ8)
    ) FU 0 q1.2
  else
    some (false, q1.2)
set_option maxRecDepth 100000 in
theorem wX4_readSum_j38_13 (rec : Nat → Int32 → Mem → Option (Bool × Mem)) (dd ds : Nat) (hdd : ds < dd) (h10 : 10 < dd) (hrec : ∀ (t : Nat) (ht : okX2 Rf0 NF t) (a : Int32) (μ : Mem) {q : Bool × Mem}, rec t a μ = some q → Ct mX4_readProduct ds NF NF [.ref 3, .ref t, .int a] (μ, Rf0, NF) (QN (some (.int (b2i q.1))) q.2 Rf0 NF)) (t1 : Nat) (ht1 : okX2 Rf0 NF t1)  {res : Bool × Mem} (v2 : Int32) (v3 : Int32) (μ : Mem) (KB : Int32 → Mem → Option (Bool × Mem)) (hB : ∀ (u3 : Int32) (um : Mem), KB u3 um = some res → RW mX4_readSum dd NF NF 13 [(0, .ref 3), (1, .ref t1), (2, .int v2), (3, .int u3)] [] (um, Rf0, NF) (QN (some (.int (b2i res.1))) res.2 Rf0 NF)) (K : Mem → Option (Bool × Mem)) (hK : ∀ (um : Mem), K um = some res → RW mX4_readSum dd NF NF 78 [] [] (um, Rf0, NF) (QN (some (.int (b2i res.1))) res.2 Rf0 NF)) (h : fX4_readSum_j38_13 rec t1 KB K v2 v3 μ = some res) : RW mX4_readSum dd NF NF 38 [(0, .ref 3), (1, .ref t1), (2, .int v2), (3, .int v3)] [] (μ, Rf0, NF) (QN (some (.int (b2i res.1))) res.2 Rf0 NF) := by
  unfold fX4_readSum_j38_13 at h
  refine rw_aload_n 38 dX4_readSum_38 0 rfl ?_
  refine rn_cVpi 39 4 [] dX4_readSum_39 caX4_kind lX4_43 inX4_kind slX4_kind rfl ly_3 ⟨_, rfl, rfl⟩ rln_3 naX4_kind (Nat.le_of_ble_eq_true rfl) (Nat.le_of_ble_eq_true rfl) (by omega) (fun _ hq => wX4_kind μ hq) h (fun q3 h => ?_)
  refine rw_istore 42 [(0, .ref 3), (1, .ref t1), (2, .int v2), (3, .int v3), (4, .int q3)] dX4_readSum_42 (by decide) rfl ?_
  refine rw_aload_n 44 dX4_readSum_44 0 rfl ?_
  refine rw_iload 45 dX4_readSum_45 4 rfl ?_
  refine rn_cVmb 47 4 [.int q3] dX4_readSum_47 caX4_take lX4_78 inX4_take slX4_take rfl ly_3 ⟨_, rfl, rfl⟩ rln_3 naX4_take (Nat.le_of_ble_eq_true rfl) (Nat.le_of_ble_eq_true rfl) (by omega) (fun _ hq => wX4_take q3 μ hq) h (fun q4 h => ?_)
  refine rn_ifb_eq 50 62 dX4_readSum_50 (by decide) h (fun _ h => ?_) (fun _ h => ?_)
  · refine rw_iconst 62 (v := 0) dX4_readSum_62 (by decide) ?_
    exact rn_zret2 63 (v := false) dX4_readSum_63 rfl h
  · refine rw_aload_n 53 dX4_readSum_53 0 rfl ?_
    refine rw_aload_n 54 dX4_readSum_54 1 rfl ?_
    refine rw_iload_n 55 dX4_readSum_55 2 rfl ?_
    refine rn_cVmb 56 4 [.ref t1, .int v2] dX4_readSum_56 caX4_readProduct lX4_153 inX4_readProduct slX4_readProduct rfl ly_3 ⟨_, rfl, rfl⟩ rln_3 naX4_readProduct (Nat.le_of_ble_eq_true rfl) (Nat.le_of_ble_eq_true rfl) (by omega) (fun _ hq => hrec t1 ht1 v2 q4.2 hq) h (fun q5 h => ?_)
    refine rn_ifb_ne 59 64 dX4_readSum_59 (by decide) h (fun _ h => ?_) (fun _ h => ?_)
    · refine rw_aload_n 64 dX4_readSum_64 1 rfl ?_
      refine rw_iload 65 dX4_readSum_65 4 rfl ?_
      refine rw_iconst 67 (v := 0) dX4_readSum_67 (by decide) ?_
      refine rn_cVmi 68 2 [.int q3, .int 0] dX4_readSum_68 caX2_add lX4_146 inX2_add slX2_add rfl (o2l ht1) ⟨_, rfl, rfl⟩ (o2n ht1) naX2_add (Nat.le_of_ble_eq_true rfl) (Nat.le_of_ble_eq_true rfl) (by omega) (fun _ hq => wX2_add t1 ht1 q3 0 q5.2 hq) h (fun q6 h => ?_)
      refine rw_pop 71 dX4_readSum_71 rfl ?_
      refine rw_iinc 72 [(0, .ref 3), (1, .ref t1), (2, .int v2), (3, .int (v3 + 1)), (4, .int q3)] dX4_readSum_72 3 rfl rfl (by decide) rfl ?_
      refine rw_goto 75 13 dX4_readSum_75 (by decide) ?_
      refine rw_pick 13 [0, 1, 2, 3] rfl ?_
      exact hB (v3 + 1) q6.2 h
    · refine rw_iconst 62 (v := 0) dX4_readSum_62 (by decide) ?_
      exact rn_zret2 63 (v := false) dX4_readSum_63 rfl h
set_option maxRecDepth 100000 in
theorem wX4_readSum_13 (rec : Nat → Int32 → Mem → Option (Bool × Mem)) (dd ds : Nat) (hdd : ds < dd) (h10 : 10 < dd) (hrec : ∀ (t : Nat) (ht : okX2 Rf0 NF t) (a : Int32) (μ : Mem) {q : Bool × Mem}, rec t a μ = some q → Ct mX4_readProduct ds NF NF [.ref 3, .ref t, .int a] (μ, Rf0, NF) (QN (some (.int (b2i q.1))) q.2 Rf0 NF)) (t1 : Nat) (ht1 : okX2 Rf0 NF t1)  (v2 : Int32)  (K : Mem → Option (Bool × Mem)) {res : Bool × Mem} (hK : ∀  (μ : Mem), K μ = some res → RW mX4_readSum dd NF NF 78 [] [] (μ, Rf0, NF) (QN (some (.int (b2i res.1))) res.2 Rf0 NF)) : ∀ (n9 : Nat) (v3 : Int32) (μ : Mem), fX4_readSum_13 rec t1 v2 K n9 v3 μ = some res → RW mX4_readSum dd NF NF 13 [(0, .ref 3), (1, .ref t1), (2, .int v2), (3, .int v3)] [] (μ, Rf0, NF) (QN (some (.int (b2i res.1))) res.2 Rf0 NF) := by
  intro n9
  induction n9 with
  | zero => intro _ _ h; cases h
  | succ n ih =>
    intro v3 μ h
    unfold fX4_readSum_13 at h
    refine rw_iload_n 13 dX4_readSum_13 3 rfl ?_
    refine rw_sipush 14 (v := 400) dX4_readSum_14 (by decide) ?_
    refine rn_icmp_ge 17 78 dX4_readSum_17 (by decide) h (fun _ h => ?_) (fun _ h => ?_)
    · refine rw_pick 78 [] rfl ?_
      exact hK μ h
    · refine rw_aload_n 20 dX4_readSum_20 0 rfl ?_
      refine rn_cVpi 21 4 [] dX4_readSum_21 caX4_kind lX4_43 inX4_kind slX4_kind rfl ly_3 ⟨_, rfl, rfl⟩ rln_3 naX4_kind (Nat.le_of_ble_eq_true rfl) (Nat.le_of_ble_eq_true rfl) (by omega) (fun _ hq => wX4_kind μ hq) h (fun q2 h => ?_)
      refine rw_bipush 24 (v := 6) dX4_readSum_24 (by decide) ?_
      refine rn_icmp_eq 26 38 dX4_readSum_26 (by decide) h (fun _ h => ?_) (fun _ h => ?_)
      · exact wX4_readSum_j38_13 rec dd ds hdd h10 hrec t1 ht1 v2 v3 μ _ (fun z0 zm h => ih z0 zm h) K hK h
      · refine rw_aload_n 29 dX4_readSum_29 0 rfl ?_
        refine rn_cVpi 30 4 [] dX4_readSum_30 caX4_kind lX4_43 inX4_kind slX4_kind rfl ly_3 ⟨_, rfl, rfl⟩ rln_3 naX4_kind (Nat.le_of_ble_eq_true rfl) (Nat.le_of_ble_eq_true rfl) (by omega) (fun _ hq => wX4_kind μ hq) h (fun q7 h => ?_)
        refine rw_bipush 33 (v := 7) dX4_readSum_33 (by decide) ?_
        refine rn_icmp_ne 35 78 dX4_readSum_35 (by decide) h (fun _ h => ?_) (fun _ h => ?_)
        · refine rw_pick 78 [] rfl ?_
          exact hK μ h
        · exact wX4_readSum_j38_13 rec dd ds hdd h10 hrec t1 ht1 v2 v3 μ _ (fun z0 zm h => ih z0 zm h) K hK h
set_option maxRecDepth 100000 in
theorem wX4_readSum_o (rec : Nat → Int32 → Mem → Option (Bool × Mem)) (dd ds : Nat) (hdd : ds < dd) (h10 : 10 < dd) (hrec : ∀ (t : Nat) (ht : okX2 Rf0 NF t) (a : Int32) (μ : Mem) {q : Bool × Mem}, rec t a μ = some q → Ct mX4_readProduct ds NF NF [.ref 3, .ref t, .int a] (μ, Rf0, NF) (QN (some (.int (b2i q.1))) q.2 Rf0 NF)) (t1 : Nat) (ht1 : okX2 Rf0 NF t1) (a2 : Int32) (μ : Mem) {res : Bool × Mem} (h : fX4_readSum_o rec t1 a2 μ = some res) : Ct mX4_readSum dd NF NF [.ref 3, .ref t1, .int a2] (μ, Rf0, NF) (QN (some (.int (b2i res.1))) res.2 Rf0 NF) := by
  unfold fX4_readSum_o at h
  show RW mX4_readSum dd NF NF 0 [(0, .ref 3), (1, .ref t1), (2, .int a2)] [] (μ, Rf0, NF) (QN (some (.int (b2i res.1))) res.2 Rf0 NF)
  refine rw_aload_n 0 dX4_readSum_0 0 rfl ?_
  refine rw_aload_n 1 dX4_readSum_1 1 rfl ?_
  refine rw_iload_n 2 dX4_readSum_2 2 rfl ?_
  refine rn_cVmb 3 4 [.ref t1, .int a2] dX4_readSum_3 caX4_readProduct lX4_153 inX4_readProduct slX4_readProduct rfl ly_3 ⟨_, rfl, rfl⟩ rln_3 naX4_readProduct (Nat.le_of_ble_eq_true rfl) (Nat.le_of_ble_eq_true rfl) (by omega) (fun _ hq => hrec t1 ht1 a2 μ hq) h (fun q1 h => ?_)
  refine rn_ifb_ne 6 11 dX4_readSum_6 (by decide) h (fun _ h => ?_) (fun _ h => ?_)
  · refine rw_iconst 11 (v := 0) dX4_readSum_11 (by decide) ?_
    refine rw_istore_n 12 [(0, .ref 3), (1, .ref t1), (2, .int a2), (3, .int 0)] dX4_readSum_12 (by decide) rfl ?_
    refine wX4_readSum_13 rec dd ds hdd h10 hrec t1 ht1 a2 _ (fun μ8 h => ?_) FU 0 q1.2 h
    refine rw_iconst 78 (v := 1) dX4_readSum_78 (by decide) ?_
    exact rn_zret2 79 (v := true) dX4_readSum_79 rfl h
  · refine rw_iconst 9 (v := 0) dX4_readSum_9 (by decide) ?_
    exact rn_zret2 10 (v := false) dX4_readSum_10 rfl h
