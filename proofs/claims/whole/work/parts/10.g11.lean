def fX11_in (a0 : Int32) (a1 : Int32) (a2 : Int32) (μ : Mem) : Option (Bool) :=
  if a0 < a1 then
    some false
  else
    if a2 < a0 then
      some false
    else
      some true
set_option maxRecDepth 100000 in
theorem wX11_in (a0 : Int32) (a1 : Int32) (a2 : Int32) (μ : Mem) {res : Bool} (h : fX11_in a0 a1 a2 μ = some res) : Ct mX11_in 1 NF NF [.int a0, .int a1, .int a2] (μ, Rf0, NF) (QN (some (.int (b2i res))) μ Rf0 NF) := by
  unfold fX11_in at h
  show RW mX11_in 1 NF NF 0 [(0, .int a0), (1, .int a1), (2, .int a2)] [] (μ, Rf0, NF) (QN (some (.int (b2i res))) μ Rf0 NF)
  refine rw_iload_n 0 dX11_in_0 0 rfl ?_
  refine rw_iload_n 1 dX11_in_1 1 rfl ?_
  refine rn_icmp_lt 2 14 dX11_in_2 (by decide) h (fun _ h => ?_) (fun _ h => ?_)
  · refine rw_iconst 14 (v := 0) dX11_in_14 (by decide) ?_
    exact rn_zret 15 (v := false) dX11_in_15 rfl h
  · refine rw_iload_n 5 dX11_in_5 0 rfl ?_
    refine rw_iload_n 6 dX11_in_6 2 rfl ?_
    refine rn_icmp_gt 7 14 dX11_in_7 (by decide) h (fun _ h => ?_) (fun _ h => ?_)
    · refine rw_iconst 14 (v := 0) dX11_in_14 (by decide) ?_
      exact rn_zret 15 (v := false) dX11_in_15 rfl h
    · refine rw_iconst 10 (v := 1) dX11_in_10 (by decide) ?_
      refine rw_goto 11 15 dX11_in_11 (by decide) ?_
      exact rn_zret 15 (v := true) dX11_in_15 rfl h
def fX11_within (a0 : Int32) (a1 : Int32) (a2 : Int32) (μ : Mem) : Option (Int32) :=
  if a0 < a1 then
    some a1
  else
    if a2 < a0 then
      some a2
    else
      some a0
set_option maxRecDepth 100000 in
theorem wX11_within (a0 : Int32) (a1 : Int32) (a2 : Int32) (μ : Mem) {res : Int32} (h : fX11_within a0 a1 a2 μ = some res) : Ct mX11_within 1 NF NF [.int a0, .int a1, .int a2] (μ, Rf0, NF) (QN (some (.int res)) μ Rf0 NF) := by
  unfold fX11_within at h
  show RW mX11_within 1 NF NF 0 [(0, .int a0), (1, .int a1), (2, .int a2)] [] (μ, Rf0, NF) (QN (some (.int res)) μ Rf0 NF)
  refine rw_iload_n 0 dX11_within_0 0 rfl ?_
  refine rw_iload_n 1 dX11_within_1 1 rfl ?_
  refine rn_icmp_ge 2 9 dX11_within_2 (by decide) h (fun _ h => ?_) (fun _ h => ?_)
  · refine rw_iload_n 9 dX11_within_9 0 rfl ?_
    refine rw_iload_n 10 dX11_within_10 2 rfl ?_
    refine rn_icmp_le 11 18 dX11_within_11 (by decide) h (fun _ h => ?_) (fun _ h => ?_)
    · refine rw_iload_n 18 dX11_within_18 0 rfl ?_
      exact rn_iret 19 dX11_within_19 rfl h
    · refine rw_iload_n 14 dX11_within_14 2 rfl ?_
      refine rw_goto 15 19 dX11_within_15 (by decide) ?_
      exact rn_iret 19 dX11_within_19 rfl h
  · refine rw_iload_n 5 dX11_within_5 1 rfl ?_
    refine rw_goto 6 19 dX11_within_6 (by decide) ?_
    exact rn_iret 19 dX11_within_19 rfl h
def fX11_bits_4   (v0 : Int32) (μ : Mem) (K : Int32 → Option (Int32)) : Nat → Int32 → Int32 → Option (Int32)
  | 0, _, _ => none
  | n + 1, v1, v2 =>
    if v2 < 24 then
      nm (v1 + ((v0 >>> (v2 &&& 31)) &&& 1)) fun x1 =>
      fX11_bits_4 v0 μ K n x1 (v2 + 1)
    else
      K v1
def fX11_bits (a0 : Int32) (μ : Mem) : Option (Int32) :=
  fX11_bits_4 a0 μ (fun y2 =>
      some y2
  ) FU 0 0
set_option maxRecDepth 100000 in
theorem wX11_bits_4   (v0 : Int32) (μ : Mem) (K : Int32 → Option (Int32)) {res : Int32} (hK : ∀ (v1 : Int32), K v1 = some res → RW mX11_bits 1 NF NF 24 [(1, .int v1)] [] (μ, Rf0, NF) (QN (some (.int res)) μ Rf0 NF)) : ∀ (n9 : Nat) (v1 : Int32) (v2 : Int32), fX11_bits_4 v0 μ K n9 v1 v2 = some res → RW mX11_bits 1 NF NF 4 [(0, .int v0), (1, .int v1), (2, .int v2)] [] (μ, Rf0, NF) (QN (some (.int res)) μ Rf0 NF) := by
  intro n9
  induction n9 with
  | zero => intro _ _ h; cases h
  | succ n ih =>
    intro v1 v2 h
    unfold fX11_bits_4 at h
    refine rw_iload_n 4 dX11_bits_4 2 rfl ?_
    refine rw_bipush 5 (v := 24) dX11_bits_5 (by decide) ?_
    refine rn_icmp_ge 7 24 dX11_bits_7 (by decide) h (fun _ h => ?_) (fun _ h => ?_)
    · refine rw_pick 24 [1] rfl ?_
      exact hK v1 h
    · refine rw_iload_n 10 dX11_bits_10 1 rfl ?_
      refine rw_iload_n 11 dX11_bits_11 0 rfl ?_
      refine rw_iload_n 12 dX11_bits_12 2 rfl ?_
      refine rw_ishr 13 dX11_bits_13 ?_
      refine rw_iconst 14 (v := 1) dX11_bits_14 (by decide) ?_
      refine rw_iand 15 dX11_bits_15 ?_
      refine rw_iadd 16 dX11_bits_16 ?_
      refine rn_ist_n 17 (fun x1 => [(0, .int v0), (1, .int x1), (2, .int v2)]) dX11_bits_17 (by decide) (fun _ => rfl) h (fun x1 h => ?_)
      refine rw_iinc 18 [(0, .int v0), (1, .int x1), (2, .int (v2 + 1))] dX11_bits_18 2 rfl rfl (by decide) rfl ?_
      refine rw_goto 21 4 dX11_bits_21 (by decide) ?_
      exact ih x1 (v2 + 1) h
set_option maxRecDepth 100000 in
theorem wX11_bits (a0 : Int32) (μ : Mem) {res : Int32} (h : fX11_bits a0 μ = some res) : Ct mX11_bits 1 NF NF [.int a0] (μ, Rf0, NF) (QN (some (.int res)) μ Rf0 NF) := by
  unfold fX11_bits at h
  show RW mX11_bits 1 NF NF 0 [(0, .int a0)] [] (μ, Rf0, NF) (QN (some (.int res)) μ Rf0 NF)
  refine rw_iconst 0 (v := 0) dX11_bits_0 (by decide) ?_
  refine rw_istore_n 1 [(0, .int a0), (1, .int 0)] dX11_bits_1 (by decide) rfl ?_
  refine rw_iconst 2 (v := 0) dX11_bits_2 (by decide) ?_
  refine rw_istore_n 3 [(0, .int a0), (1, .int 0), (2, .int 0)] dX11_bits_3 (by decide) rfl ?_
  refine wX11_bits_4 a0 μ _ (fun y2 h => ?_) FU 0 0 h
  refine rw_iload_n 24 dX11_bits_24 0 rfl ?_
  exact rn_iret 25 dX11_bits_25 rfl h
def fX11_isSunday (a1 : Int32) (μ : Mem) : Option (Bool) :=
  if inb (μ.1 243 18) 2 then
  (fX11_in a1 0 ((μ.1 253 (μ.1 243 18).toNatClampNeg) - 1) μ).bind fun q1 =>
  some q1
  else none
set_option maxRecDepth 100000 in
theorem wX11_isSunday (a1 : Int32) (μ : Mem) {res : Bool} (h : fX11_isSunday a1 μ = some res) : Ct mX11_isSunday 2 NF NF [.ref 243, .int a1] (μ, Rf0, NF) (QN (some (.int (b2i res))) μ Rf0 NF) := by
  unfold fX11_isSunday at h
  show RW mX11_isSunday 2 NF NF 0 [(0, .ref 243), (1, .int a1)] [] (μ, Rf0, NF) (QN (some (.int (b2i res))) μ Rf0 NF)
  refine rw_iload_n 0 dX11_isSunday_0 1 rfl ?_
  refine rw_iconst 1 (v := 0) dX11_isSunday_1 (by decide) ?_
  refine rw_aload_n 2 dX11_isSunday_2 0 rfl ?_
  refine rw_getR 3 11 23 kc11 dX11_isSunday_3 ly_243 rln_243 fX11_46 rfl rf_243_23 ?_
  refine rw_aload_n 6 dX11_isSunday_6 0 rfl ?_
  refine rw_getI 7 11 18 kc11 dX11_isSunday_7 ly_243 rln_243 fX11_236 rfl ?_
  refine rn_iald 10 dX11_isSunday_10 ly_253 rln_253 h (fun h => ?_)
  refine rw_iconst 11 (v := 1) dX11_isSunday_11 (by decide) ?_
  refine rw_isub 12 dX11_isSunday_12 ?_
  refine rn_cSpb 13 [.int a1, .int 0, .int ((μ.1 253 (μ.1 243 18).toNatClampNeg) - 1)] dX11_isSunday_13 caX11_in lX11_316 stX11_in rfl naX11_in (Nat.le_of_ble_eq_true rfl) (Nat.le_of_ble_eq_true rfl) (by decide) (fun _ hq => wX11_in a1 0 ((μ.1 253 (μ.1 243 18).toNatClampNeg) - 1) μ hq) h (fun q1 h => ?_)
  exact rn_zret 16 (v := q1) dX11_isSunday_16 rfl h
def fX11_isGuest (a1 : Int32) (μ : Mem) : Option (Bool) :=
  if inb (μ.1 243 18) 2 then
  (fX11_in a1 0 ((μ.1 256 (μ.1 243 18).toNatClampNeg) - 1) μ).bind fun q1 =>
  some q1
  else none
set_option maxRecDepth 100000 in
theorem wX11_isGuest (a1 : Int32) (μ : Mem) {res : Bool} (h : fX11_isGuest a1 μ = some res) : Ct mX11_isGuest 2 NF NF [.ref 243, .int a1] (μ, Rf0, NF) (QN (some (.int (b2i res))) μ Rf0 NF) := by
  unfold fX11_isGuest at h
  show RW mX11_isGuest 2 NF NF 0 [(0, .ref 243), (1, .int a1)] [] (μ, Rf0, NF) (QN (some (.int (b2i res))) μ Rf0 NF)
  refine rw_iload_n 0 dX11_isGuest_0 1 rfl ?_
  refine rw_iconst 1 (v := 0) dX11_isGuest_1 (by decide) ?_
  refine rw_aload_n 2 dX11_isGuest_2 0 rfl ?_
  refine rw_getR 3 11 26 kc11 dX11_isGuest_3 ly_243 rln_243 fX11_55 rfl rf_243_26 ?_
  refine rw_aload_n 6 dX11_isGuest_6 0 rfl ?_
  refine rw_getI 7 11 18 kc11 dX11_isGuest_7 ly_243 rln_243 fX11_236 rfl ?_
  refine rn_iald 10 dX11_isGuest_10 ly_256 rln_256 h (fun h => ?_)
  refine rw_iconst 11 (v := 1) dX11_isGuest_11 (by decide) ?_
  refine rw_isub 12 dX11_isGuest_12 ?_
  refine rn_cSpb 13 [.int a1, .int 0, .int ((μ.1 256 (μ.1 243 18).toNatClampNeg) - 1)] dX11_isGuest_13 caX11_in lX11_316 stX11_in rfl naX11_in (Nat.le_of_ble_eq_true rfl) (Nat.le_of_ble_eq_true rfl) (by decide) (fun _ hq => wX11_in a1 0 ((μ.1 256 (μ.1 243 18).toNatClampNeg) - 1) μ hq) h (fun q1 h => ?_)
  exact rn_zret 16 (v := q1) dX11_isGuest_16 rfl h
def fX11_copies_2     (K : Mem → Option (Mem)) : Nat → Int32 → Mem → Option (Mem)
  | 0, _, _ => none
  | n + 1, v1, μ =>
    if v1 < 31 then
      if inb v1 31 then
      if inb v1 31 then nm (wI μ 277 v1.toNatClampNeg (μ.1 276 v1.toNatClampNeg)) fun μ1 =>
      fX11_copies_2 K n (v1 + 1) μ1
      else none
      else none
    else
      K μ
def fX11_copies  (μ : Mem) : Option (Mem) :=
  fX11_copies_2  (fun μ2 =>
      if inb (μ2.1 243 18) 2 then
      nm (wI μ2 243 52 (μ2.1 263 (μ2.1 243 18).toNatClampNeg)) fun μ3 =>
      nm (wI μ3 243 53 0) fun μ4 =>
      some μ4
      else none
  ) FU 0 μ
set_option maxRecDepth 100000 in
theorem wX11_copies_2     (K : Mem → Option (Mem)) {res : Mem} (hK : ∀  (μ : Mem), K μ = some res → RW mX11_copies 1 NF NF 26 [(0, .ref 243)] [] (μ, Rf0, NF) (QN none res Rf0 NF)) : ∀ (n9 : Nat) (v1 : Int32) (μ : Mem), fX11_copies_2 K n9 v1 μ = some res → RW mX11_copies 1 NF NF 2 [(0, .ref 243), (1, .int v1)] [] (μ, Rf0, NF) (QN none res Rf0 NF) := by
  intro n9
  induction n9 with
  | zero => intro _ _ h; cases h
  | succ n ih =>
    intro v1 μ h
    unfold fX11_copies_2 at h
    refine rw_iload_n 2 dX11_copies_2 1 rfl ?_
    refine rw_bipush 3 (v := 31) dX11_copies_3 (by decide) ?_
    refine rn_icmp_ge 5 26 dX11_copies_5 (by decide) h (fun _ h => ?_) (fun _ h => ?_)
    · refine rw_pick 26 [0] rfl ?_
      exact hK μ h
    · refine rw_aload_n 8 dX11_copies_8 0 rfl ?_
      refine rw_getR 9 11 51 kc11 dX11_copies_9 ly_243 rln_243 fX11_119 rfl rf_243_51 ?_
      refine rw_iload_n 12 dX11_copies_12 1 rfl ?_
      refine rw_aload_n 13 dX11_copies_13 0 rfl ?_
      refine rw_getR 14 11 50 kc11 dX11_copies_14 ly_243 rln_243 fX11_116 rfl rf_243_50 ?_
      refine rw_iload_n 17 dX11_copies_17 1 rfl ?_
      refine rn_iald 18 dX11_copies_18 ly_276 rln_276 h (fun h => ?_)
      refine rn_iast 19 dX11_copies_19 ly_277 rln_277 h (fun μ1 h => ?_)
      refine rw_iinc 20 [(0, .ref 243), (1, .int (v1 + 1))] dX11_copies_20 1 rfl rfl (by decide) rfl ?_
      refine rw_goto 23 2 dX11_copies_23 (by decide) ?_
      exact ih (v1 + 1) μ1 h
set_option maxRecDepth 100000 in
theorem wX11_copies  (μ : Mem) {res : Mem} (h : fX11_copies  μ = some res) : Ct mX11_copies 1 NF NF [.ref 243] (μ, Rf0, NF) (QN none res Rf0 NF) := by
  unfold fX11_copies at h
  show RW mX11_copies 1 NF NF 0 [(0, .ref 243)] [] (μ, Rf0, NF) (QN none res Rf0 NF)
  refine rw_iconst 0 (v := 0) dX11_copies_0 (by decide) ?_
  refine rw_istore_n 1 [(0, .ref 243), (1, .int 0)] dX11_copies_1 (by decide) rfl ?_
  refine wX11_copies_2 _ (fun μ2 h => ?_) FU 0 μ h
  refine rw_aload_n 26 dX11_copies_26 0 rfl ?_
  refine rw_aload_n 27 dX11_copies_27 0 rfl ?_
  refine rw_getR 28 11 33 kc11 dX11_copies_28 ly_243 rln_243 fX11_76 rfl rf_243_33 ?_
  refine rw_aload_n 31 dX11_copies_31 0 rfl ?_
  refine rw_getI 32 11 18 kc11 dX11_copies_32 ly_243 rln_243 fX11_236 rfl ?_
  refine rn_iald 35 dX11_copies_35 ly_263 rln_263 h (fun h => ?_)
  refine rn_putI 36 11 52 kc11 dX11_copies_36 ly_243 rln_243 fX11_320 (fun q hq => by cases hq; rfl) rfl rfl rfl h (fun μ3 h => ?_)
  refine rw_aload_n 39 dX11_copies_39 0 rfl ?_
  refine rw_iconst 40 (v := 0) dX11_copies_40 (by decide) ?_
  refine rn_putI 41 11 53 kc11 dX11_copies_41 ly_243 rln_243 fX11_323 (fun q hq => by cases hq; rfl) rfl rfl rfl h (fun μ4 h => ?_)
  exact rn_vret 44 dX11_copies_44 rfl h
def fX11_copiesStill  (μ : Mem) : Option (Mem) :=
  (fX11_copies μ).bind fun q1 =>
  nm (wI q1 243 53 1) fun μ2 =>
  some μ2
set_option maxRecDepth 100000 in
theorem wX11_copiesStill  (μ : Mem) {res : Mem} (h : fX11_copiesStill  μ = some res) : Ct mX11_copiesStill 2 NF NF [.ref 243] (μ, Rf0, NF) (QN none res Rf0 NF) := by
  unfold fX11_copiesStill at h
  show RW mX11_copiesStill 2 NF NF 0 [(0, .ref 243)] [] (μ, Rf0, NF) (QN none res Rf0 NF)
  refine rw_aload_n 0 dX11_copiesStill_0 0 rfl ?_
  refine rn_cVmv 1 11 [] dX11_copiesStill_1 caX11_copies lX11_326 inX11_copies slX11_copies rfl ly_243 ⟨_, rfl, rfl⟩ rln_243 naX11_copies (Nat.le_of_ble_eq_true rfl) (Nat.le_of_ble_eq_true rfl) (by decide) (fun _ hq => wX11_copies μ hq) h (fun q1 h => ?_)
  refine rw_aload_n 4 dX11_copiesStill_4 0 rfl ?_
  refine rw_iconst 5 (v := 1) dX11_copiesStill_5 (by decide) ?_
  refine rn_putI 6 11 53 kc11 dX11_copiesStill_6 ly_243 rln_243 fX11_323 (fun q hq => by cases hq; rfl) rfl rfl rfl h (fun μ2 h => ?_)
  exact rn_vret 9 dX11_copiesStill_9 rfl h
def fX11_mixed (a0 : Int32) (a1 : Int32) (μ : Mem) : Option (Int32) :=
  nm (((a0 ^^^ a1) * 1103515245) + 12345) fun x1 =>
  some (x1 ^^^ (ush x1 15))
set_option maxRecDepth 100000 in
theorem wX11_mixed (a0 : Int32) (a1 : Int32) (μ : Mem) {res : Int32} (h : fX11_mixed a0 a1 μ = some res) : Ct mX11_mixed 1 NF NF [.int a0, .int a1] (μ, Rf0, NF) (QN (some (.int res)) μ Rf0 NF) := by
  unfold fX11_mixed at h
  show RW mX11_mixed 1 NF NF 0 [(0, .int a0), (1, .int a1)] [] (μ, Rf0, NF) (QN (some (.int res)) μ Rf0 NF)
  refine rw_iload_n 0 dX11_mixed_0 0 rfl ?_
  refine rw_iload_n 1 dX11_mixed_1 1 rfl ?_
  refine rw_ixor 2 dX11_mixed_2 ?_
  refine rw_ldcw 3 dX11_mixed_3 lX11_329 ?_
  refine rw_imul 6 dX11_mixed_6 ?_
  refine rw_sipush 7 (v := 12345) dX11_mixed_7 (by decide) ?_
  refine rw_iadd 10 dX11_mixed_10 ?_
  refine rn_ist_n 11 (fun x1 => [(0, .int a0), (1, .int a1), (2, .int x1)]) dX11_mixed_11 (by decide) (fun _ => rfl) h (fun x1 h => ?_)
  refine rw_iload_n 12 dX11_mixed_12 2 rfl ?_
  refine rw_iload_n 13 dX11_mixed_13 2 rfl ?_
  refine rw_bipush 14 (v := 15) dX11_mixed_14 (by decide) ?_
  refine rw_iushr 16 dX11_mixed_16 ?_
  refine rw_ixor 17 dX11_mixed_17 ?_
  exact rn_iret 18 dX11_mixed_18 rfl h
def fX11_lotOf (a1 : Int32) (μ : Mem) : Option (Int32) :=
  (fX11_mixed (μ.1 243 52) 165 μ).bind fun q1 =>
  (fX11_mixed q1 a1 μ).bind fun q2 =>
  some (irm (ush q2 1) 100)
set_option maxRecDepth 100000 in
theorem wX11_lotOf (a1 : Int32) (μ : Mem) {res : Int32} (h : fX11_lotOf a1 μ = some res) : Ct mX11_lotOf 2 NF NF [.ref 243, .int a1] (μ, Rf0, NF) (QN (some (.int res)) μ Rf0 NF) := by
  unfold fX11_lotOf at h
  show RW mX11_lotOf 2 NF NF 0 [(0, .ref 243), (1, .int a1)] [] (μ, Rf0, NF) (QN (some (.int res)) μ Rf0 NF)
  refine rw_aload_n 0 dX11_lotOf_0 0 rfl ?_
  refine rw_getI 1 11 52 kc11 dX11_lotOf_1 ly_243 rln_243 fX11_320 rfl ?_
  refine rw_sipush 4 (v := 165) dX11_lotOf_4 (by decide) ?_
  refine rn_cSpi 7 [.int (μ.1 243 52), .int 165] dX11_lotOf_7 caX11_mixed lX11_330 stX11_mixed rfl naX11_mixed (Nat.le_of_ble_eq_true rfl) (Nat.le_of_ble_eq_true rfl) (by decide) (fun _ hq => wX11_mixed (μ.1 243 52) 165 μ hq) h (fun q1 h => ?_)
  refine rw_iload_n 10 dX11_lotOf_10 1 rfl ?_
  refine rn_cSpi 11 [.int q1, .int a1] dX11_lotOf_11 caX11_mixed lX11_330 stX11_mixed rfl naX11_mixed (Nat.le_of_ble_eq_true rfl) (Nat.le_of_ble_eq_true rfl) (by decide) (fun _ hq => wX11_mixed q1 a1 μ hq) h (fun q2 h => ?_)
  refine rw_iconst 14 (v := 1) dX11_lotOf_14 (by decide) ?_
  refine rw_iushr 15 dX11_lotOf_15 ?_
  refine rw_bipush 16 (v := 100) dX11_lotOf_16 (by decide) ?_
  refine rw_irem 18 dX11_lotOf_18 (by decide) ?_
  exact rn_iret 19 dX11_lotOf_19 rfl h
def fX11_fromAt (a1 : Int32) (μ : Mem) : Option (Int32) :=
  if inb ((7 * (μ.1 243 18)) + a1) 14 then
  some (μ.1 257 ((7 * (μ.1 243 18)) + a1).toNatClampNeg)
  else none
set_option maxRecDepth 100000 in
theorem wX11_fromAt (a1 : Int32) (μ : Mem) {res : Int32} (h : fX11_fromAt a1 μ = some res) : Ct mX11_fromAt 1 NF NF [.ref 243, .int a1] (μ, Rf0, NF) (QN (some (.int res)) μ Rf0 NF) := by
  unfold fX11_fromAt at h
  show RW mX11_fromAt 1 NF NF 0 [(0, .ref 243), (1, .int a1)] [] (μ, Rf0, NF) (QN (some (.int res)) μ Rf0 NF)
  refine rw_aload_n 0 dX11_fromAt_0 0 rfl ?_
  refine rw_getR 1 11 27 kc11 dX11_fromAt_1 ly_243 rln_243 fX11_58 rfl rf_243_27 ?_
  refine rw_bipush 4 (v := 7) dX11_fromAt_4 (by decide) ?_
  refine rw_aload_n 6 dX11_fromAt_6 0 rfl ?_
  refine rw_getI 7 11 18 kc11 dX11_fromAt_7 ly_243 rln_243 fX11_236 rfl ?_
  refine rw_imul 10 dX11_fromAt_10 ?_
  refine rw_iload_n 11 dX11_fromAt_11 1 rfl ?_
  refine rw_iadd 12 dX11_fromAt_12 ?_
  refine rn_iald 13 dX11_fromAt_13 ly_257 rln_257 h (fun h => ?_)
  exact rn_iret 14 dX11_fromAt_14 rfl h
def fX11_tillAt (a1 : Int32) (μ : Mem) : Option (Int32) :=
  if inb ((7 * (μ.1 243 18)) + a1) 14 then
  if inb ((7 * (μ.1 243 18)) + a1) 14 then
  some ((μ.1 257 ((7 * (μ.1 243 18)) + a1).toNatClampNeg) + (μ.1 258 ((7 * (μ.1 243 18)) + a1).toNatClampNeg))
  else none
  else none
set_option maxRecDepth 100000 in
theorem wX11_tillAt (a1 : Int32) (μ : Mem) {res : Int32} (h : fX11_tillAt a1 μ = some res) : Ct mX11_tillAt 1 NF NF [.ref 243, .int a1] (μ, Rf0, NF) (QN (some (.int res)) μ Rf0 NF) := by
  unfold fX11_tillAt at h
  show RW mX11_tillAt 1 NF NF 0 [(0, .ref 243), (1, .int a1)] [] (μ, Rf0, NF) (QN (some (.int res)) μ Rf0 NF)
  refine rw_aload_n 0 dX11_tillAt_0 0 rfl ?_
  refine rw_getR 1 11 27 kc11 dX11_tillAt_1 ly_243 rln_243 fX11_58 rfl rf_243_27 ?_
  refine rw_bipush 4 (v := 7) dX11_tillAt_4 (by decide) ?_
  refine rw_aload_n 6 dX11_tillAt_6 0 rfl ?_
  refine rw_getI 7 11 18 kc11 dX11_tillAt_7 ly_243 rln_243 fX11_236 rfl ?_
  refine rw_imul 10 dX11_tillAt_10 ?_
  refine rw_iload_n 11 dX11_tillAt_11 1 rfl ?_
  refine rw_iadd 12 dX11_tillAt_12 ?_
  refine rn_iald 13 dX11_tillAt_13 ly_257 rln_257 h (fun h => ?_)
  refine rw_aload_n 14 dX11_tillAt_14 0 rfl ?_
  refine rw_getR 15 11 28 kc11 dX11_tillAt_15 ly_243 rln_243 fX11_61 rfl rf_243_28 ?_
  refine rw_bipush 18 (v := 7) dX11_tillAt_18 (by decide) ?_
  refine rw_aload_n 20 dX11_tillAt_20 0 rfl ?_
  refine rw_getI 21 11 18 kc11 dX11_tillAt_21 ly_243 rln_243 fX11_236 rfl ?_
  refine rw_imul 24 dX11_tillAt_24 ?_
  refine rw_iload_n 25 dX11_tillAt_25 1 rfl ?_
  refine rw_iadd 26 dX11_tillAt_26 ?_
  refine rn_iald 27 dX11_tillAt_27 ly_258 rln_258 h (fun h => ?_)
  refine rw_iadd 28 dX11_tillAt_28 ?_
  exact rn_iret 29 dX11_tillAt_29 rfl h
def fX11_doClash (a1 : Int32) (a2 : Int32) (μ : Mem) : Option (Bool) :=
  if a1 = a2 then
    some false
  else
    if inb ((7 * (μ.1 243 18)) + a1) 14 then
    if (((μ.1 260 ((7 * (μ.1 243 18)) + a1).toNatClampNeg) >>> (a2 &&& 31)) &&& 1) = 1 then
      some true
    else
      (fX11_fromAt a1 μ).bind fun q1 =>
      (fX11_tillAt a2 μ).bind fun q2 =>
      if q1 < q2 then
        (fX11_fromAt a2 μ).bind fun q3 =>
        (fX11_tillAt a1 μ).bind fun q4 =>
        if q3 < q4 then
          some true
        else
          some false
      else
        some false
    else none
set_option maxRecDepth 100000 in
theorem wX11_doClash (a1 : Int32) (a2 : Int32) (μ : Mem) {res : Bool} (h : fX11_doClash a1 a2 μ = some res) : Ct mX11_doClash 2 NF NF [.ref 243, .int a1, .int a2] (μ, Rf0, NF) (QN (some (.int (b2i res))) μ Rf0 NF) := by
  unfold fX11_doClash at h
  show RW mX11_doClash 2 NF NF 0 [(0, .ref 243), (1, .int a1), (2, .int a2)] [] (μ, Rf0, NF) (QN (some (.int (b2i res))) μ Rf0 NF)
  refine rw_iload_n 0 dX11_doClash_0 1 rfl ?_
  refine rw_iload_n 1 dX11_doClash_1 2 rfl ?_
  refine rn_icmp_ne 2 7 dX11_doClash_2 (by decide) h (fun _ h => ?_) (fun _ h => ?_)
  · refine rw_aload_n 7 dX11_doClash_7 0 rfl ?_
    refine rw_getR 8 11 30 kc11 dX11_doClash_8 ly_243 rln_243 fX11_67 rfl rf_243_30 ?_
    refine rw_bipush 11 (v := 7) dX11_doClash_11 (by decide) ?_
    refine rw_aload_n 13 dX11_doClash_13 0 rfl ?_
    refine rw_getI 14 11 18 kc11 dX11_doClash_14 ly_243 rln_243 fX11_236 rfl ?_
    refine rw_imul 17 dX11_doClash_17 ?_
    refine rw_iload_n 18 dX11_doClash_18 1 rfl ?_
    refine rw_iadd 19 dX11_doClash_19 ?_
    refine rn_iald 20 dX11_doClash_20 ly_260 rln_260 h (fun h => ?_)
    refine rw_iload_n 21 dX11_doClash_21 2 rfl ?_
    refine rw_ishr 22 dX11_doClash_22 ?_
    refine rw_iconst 23 (v := 1) dX11_doClash_23 (by decide) ?_
    refine rw_iand 24 dX11_doClash_24 ?_
    refine rw_iconst 25 (v := 1) dX11_doClash_25 (by decide) ?_
    refine rn_icmp_eq 26 55 dX11_doClash_26 (by decide) h (fun _ h => ?_) (fun _ h => ?_)
    · refine rw_iconst 55 (v := 1) dX11_doClash_55 (by decide) ?_
      refine rw_goto 56 60 dX11_doClash_56 (by decide) ?_
      exact rn_zret 60 (v := true) dX11_doClash_60 rfl h
    · refine rw_aload_n 29 dX11_doClash_29 0 rfl ?_
      refine rw_iload_n 30 dX11_doClash_30 1 rfl ?_
      refine rn_cVpi 31 11 [.int a1] dX11_doClash_31 caX11_fromAt lX11_333 inX11_fromAt slX11_fromAt rfl ly_243 ⟨_, rfl, rfl⟩ rln_243 naX11_fromAt (Nat.le_of_ble_eq_true rfl) (Nat.le_of_ble_eq_true rfl) (by decide) (fun _ hq => wX11_fromAt a1 μ hq) h (fun q1 h => ?_)
      refine rw_aload_n 34 dX11_doClash_34 0 rfl ?_
      refine rw_iload_n 35 dX11_doClash_35 2 rfl ?_
      refine rn_cVpi 36 11 [.int a2] dX11_doClash_36 caX11_tillAt lX11_336 inX11_tillAt slX11_tillAt rfl ly_243 ⟨_, rfl, rfl⟩ rln_243 naX11_tillAt (Nat.le_of_ble_eq_true rfl) (Nat.le_of_ble_eq_true rfl) (by decide) (fun _ hq => wX11_tillAt a2 μ hq) h (fun q2 h => ?_)
      refine rn_icmp_ge 39 59 dX11_doClash_39 (by decide) h (fun _ h => ?_) (fun _ h => ?_)
      · refine rw_iconst 59 (v := 0) dX11_doClash_59 (by decide) ?_
        exact rn_zret 60 (v := false) dX11_doClash_60 rfl h
      · refine rw_aload_n 42 dX11_doClash_42 0 rfl ?_
        refine rw_iload_n 43 dX11_doClash_43 2 rfl ?_
        refine rn_cVpi 44 11 [.int a2] dX11_doClash_44 caX11_fromAt lX11_333 inX11_fromAt slX11_fromAt rfl ly_243 ⟨_, rfl, rfl⟩ rln_243 naX11_fromAt (Nat.le_of_ble_eq_true rfl) (Nat.le_of_ble_eq_true rfl) (by decide) (fun _ hq => wX11_fromAt a2 μ hq) h (fun q3 h => ?_)
        refine rw_aload_n 47 dX11_doClash_47 0 rfl ?_
        refine rw_iload_n 48 dX11_doClash_48 1 rfl ?_
        refine rn_cVpi 49 11 [.int a1] dX11_doClash_49 caX11_tillAt lX11_336 inX11_tillAt slX11_tillAt rfl ly_243 ⟨_, rfl, rfl⟩ rln_243 naX11_tillAt (Nat.le_of_ble_eq_true rfl) (Nat.le_of_ble_eq_true rfl) (by decide) (fun _ hq => wX11_tillAt a1 μ hq) h (fun q4 h => ?_)
        refine rn_icmp_ge 52 59 dX11_doClash_52 (by decide) h (fun _ h => ?_) (fun _ h => ?_)
        · refine rw_iconst 59 (v := 0) dX11_doClash_59 (by decide) ?_
          exact rn_zret 60 (v := false) dX11_doClash_60 rfl h
        · refine rw_iconst 55 (v := 1) dX11_doClash_55 (by decide) ?_
          refine rw_goto 56 60 dX11_doClash_56 (by decide) ?_
          exact rn_zret 60 (v := true) dX11_doClash_60 rfl h
  · refine rw_iconst 5 (v := 0) dX11_doClash_5 (by decide) ?_
    exact rn_zret 6 (v := false) dX11_doClash_6 rfl h
def fX11_clashBits_4   (v1 : Int32) (μ : Mem) (K : Int32 → Option (Int32)) : Nat → Int32 → Int32 → Option (Int32)
  | 0, _, _ => none
  | n + 1, v2, v3 =>
    if inb (μ.1 243 18) 2 then
    if v3 < (μ.1 256 (μ.1 243 18).toNatClampNeg) then
      (fX11_doClash v1 v3 μ).bind fun q1 =>
      if q1 = true then
        nm (v2 ||| ((1 : Int32) <<< (v3 &&& 31))) fun x2 =>
        fX11_clashBits_4 v1 μ K n x2 (v3 + 1)
      else
        fX11_clashBits_4 v1 μ K n v2 (v3 + 1)
    else
      K v2
    else none
def fX11_clashBits (a1 : Int32) (μ : Mem) : Option (Int32) :=
  fX11_clashBits_4 a1 μ (fun y3 =>
      some y3
  ) FU 0 0
set_option maxRecDepth 100000 in
theorem wX11_clashBits_4   (v1 : Int32) (μ : Mem) (K : Int32 → Option (Int32)) {res : Int32} (hK : ∀ (v2 : Int32), K v2 = some res → RW mX11_clashBits 3 NF NF 38 [(2, .int v2)] [] (μ, Rf0, NF) (QN (some (.int res)) μ Rf0 NF)) : ∀ (n9 : Nat) (v2 : Int32) (v3 : Int32), fX11_clashBits_4 v1 μ K n9 v2 v3 = some res → RW mX11_clashBits 3 NF NF 4 [(0, .ref 243), (1, .int v1), (2, .int v2), (3, .int v3)] [] (μ, Rf0, NF) (QN (some (.int res)) μ Rf0 NF) := by
  intro n9
  induction n9 with
  | zero => intro _ _ h; cases h
  | succ n ih =>
    intro v2 v3 h
    unfold fX11_clashBits_4 at h
    refine rw_iload_n 4 dX11_clashBits_4 3 rfl ?_
    refine rw_aload_n 5 dX11_clashBits_5 0 rfl ?_
    refine rw_getR 6 11 26 kc11 dX11_clashBits_6 ly_243 rln_243 fX11_55 rfl rf_243_26 ?_
    refine rw_aload_n 9 dX11_clashBits_9 0 rfl ?_
    refine rw_getI 10 11 18 kc11 dX11_clashBits_10 ly_243 rln_243 fX11_236 rfl ?_
    refine rn_iald 13 dX11_clashBits_13 ly_256 rln_256 h (fun h => ?_)
    refine rn_icmp_ge 14 38 dX11_clashBits_14 (by decide) h (fun _ h => ?_) (fun _ h => ?_)
    · refine rw_pick 38 [2] rfl ?_
      exact hK v2 h
    · refine rw_aload_n 17 dX11_clashBits_17 0 rfl ?_
      refine rw_iload_n 18 dX11_clashBits_18 1 rfl ?_
      refine rw_iload_n 19 dX11_clashBits_19 3 rfl ?_
      refine rn_cVpb 20 11 [.int v1, .int v3] dX11_clashBits_20 caX11_doClash lX11_339 inX11_doClash slX11_doClash rfl ly_243 ⟨_, rfl, rfl⟩ rln_243 naX11_doClash (Nat.le_of_ble_eq_true rfl) (Nat.le_of_ble_eq_true rfl) (by decide) (fun _ hq => wX11_doClash v1 v3 μ hq) h (fun q1 h => ?_)
      refine rn_ifb_eq 23 32 dX11_clashBits_23 (by decide) h (fun _ h => ?_) (fun _ h => ?_)
      · refine rw_iinc 32 [(0, .ref 243), (1, .int v1), (2, .int v2), (3, .int (v3 + 1))] dX11_clashBits_32 3 rfl rfl (by decide) rfl ?_
        refine rw_goto 35 4 dX11_clashBits_35 (by decide) ?_
        exact ih v2 (v3 + 1) h
      · refine rw_iload_n 26 dX11_clashBits_26 2 rfl ?_
        refine rw_iconst 27 (v := 1) dX11_clashBits_27 (by decide) ?_
        refine rw_iload_n 28 dX11_clashBits_28 3 rfl ?_
        refine rw_ishl 29 dX11_clashBits_29 ?_
        refine rw_ior 30 dX11_clashBits_30 ?_
        refine rn_ist_n 31 (fun x2 => [(0, .ref 243), (1, .int v1), (2, .int x2), (3, .int v3)]) dX11_clashBits_31 (by decide) (fun _ => rfl) h (fun x2 h => ?_)
        refine rw_iinc 32 [(0, .ref 243), (1, .int v1), (2, .int x2), (3, .int (v3 + 1))] dX11_clashBits_32 3 rfl rfl (by decide) rfl ?_
        refine rw_goto 35 4 dX11_clashBits_35 (by decide) ?_
        exact ih x2 (v3 + 1) h
set_option maxRecDepth 100000 in
theorem wX11_clashBits (a1 : Int32) (μ : Mem) {res : Int32} (h : fX11_clashBits a1 μ = some res) : Ct mX11_clashBits 3 NF NF [.ref 243, .int a1] (μ, Rf0, NF) (QN (some (.int res)) μ Rf0 NF) := by
  unfold fX11_clashBits at h
  show RW mX11_clashBits 3 NF NF 0 [(0, .ref 243), (1, .int a1)] [] (μ, Rf0, NF) (QN (some (.int res)) μ Rf0 NF)
  refine rw_iconst 0 (v := 0) dX11_clashBits_0 (by decide) ?_
  refine rw_istore_n 1 [(0, .ref 243), (1, .int a1), (2, .int 0)] dX11_clashBits_1 (by decide) rfl ?_
  refine rw_iconst 2 (v := 0) dX11_clashBits_2 (by decide) ?_
  refine rw_istore_n 3 [(0, .ref 243), (1, .int a1), (2, .int 0), (3, .int 0)] dX11_clashBits_3 (by decide) rfl ?_
  refine wX11_clashBits_4 a1 μ _ (fun y3 h => ?_) FU 0 0 h
  refine rw_iload_n 38 dX11_clashBits_38 0 rfl ?_
  exact rn_iret 39 dX11_clashBits_39 rfl h
def fX11_doesFit (a1 : Int32) (a2 : Int32) (μ : Mem) : Option (Bool) :=
  if inb (25 + a2) 31 then
  if (μ.1 277 (25 + a2).toNatClampNeg) = 0 then
    (fX11_tillAt a1 μ).bind fun q1 =>
    if inb ((4 * (μ.1 243 18)) + a2) 8 then
    if (μ.1 254 ((4 * (μ.1 243 18)) + a2).toNatClampNeg) < q1 then
      some false
    else
      some true
    else none
  else
    some false
  else none
set_option maxRecDepth 100000 in
theorem wX11_doesFit (a1 : Int32) (a2 : Int32) (μ : Mem) {res : Bool} (h : fX11_doesFit a1 a2 μ = some res) : Ct mX11_doesFit 2 NF NF [.ref 243, .int a1, .int a2] (μ, Rf0, NF) (QN (some (.int (b2i res))) μ Rf0 NF) := by
  unfold fX11_doesFit at h
  show RW mX11_doesFit 2 NF NF 0 [(0, .ref 243), (1, .int a1), (2, .int a2)] [] (μ, Rf0, NF) (QN (some (.int (b2i res))) μ Rf0 NF)
  refine rw_aload_n 0 dX11_doesFit_0 0 rfl ?_
  refine rw_getR 1 11 51 kc11 dX11_doesFit_1 ly_243 rln_243 fX11_119 rfl rf_243_51 ?_
  refine rw_bipush 4 (v := 25) dX11_doesFit_4 (by decide) ?_
  refine rw_iload_n 6 dX11_doesFit_6 2 rfl ?_
  refine rw_iadd 7 dX11_doesFit_7 ?_
  refine rn_iald 8 dX11_doesFit_8 ly_277 rln_277 h (fun h => ?_)
  refine rn_if_ne 9 37 dX11_doesFit_9 (by decide) h (fun _ h => ?_) (fun _ h => ?_)
  · refine rw_iconst 37 (v := 0) dX11_doesFit_37 (by decide) ?_
    exact rn_zret 38 (v := false) dX11_doesFit_38 rfl h
  · refine rw_aload_n 12 dX11_doesFit_12 0 rfl ?_
    refine rw_iload_n 13 dX11_doesFit_13 1 rfl ?_
    refine rn_cVpi 14 11 [.int a1] dX11_doesFit_14 caX11_tillAt lX11_336 inX11_tillAt slX11_tillAt rfl ly_243 ⟨_, rfl, rfl⟩ rln_243 naX11_tillAt (Nat.le_of_ble_eq_true rfl) (Nat.le_of_ble_eq_true rfl) (by decide) (fun _ hq => wX11_tillAt a1 μ hq) h (fun q1 h => ?_)
    refine rw_aload_n 17 dX11_doesFit_17 0 rfl ?_
    refine rw_getR 18 11 24 kc11 dX11_doesFit_18 ly_243 rln_243 fX11_49 rfl rf_243_24 ?_
    refine rw_iconst 21 (v := 4) dX11_doesFit_21 (by decide) ?_
    refine rw_aload_n 22 dX11_doesFit_22 0 rfl ?_
    refine rw_getI 23 11 18 kc11 dX11_doesFit_23 ly_243 rln_243 fX11_236 rfl ?_
    refine rw_imul 26 dX11_doesFit_26 ?_
    refine rw_iload_n 27 dX11_doesFit_27 2 rfl ?_
    refine rw_iadd 28 dX11_doesFit_28 ?_
    refine rn_iald 29 dX11_doesFit_29 ly_254 rln_254 h (fun h => ?_)
    refine rn_icmp_gt 30 37 dX11_doesFit_30 (by decide) h (fun _ h => ?_) (fun _ h => ?_)
    · refine rw_iconst 37 (v := 0) dX11_doesFit_37 (by decide) ?_
      exact rn_zret 38 (v := false) dX11_doesFit_38 rfl h
    · refine rw_iconst 33 (v := 1) dX11_doesFit_33 (by decide) ?_
      refine rw_goto 34 38 dX11_doesFit_34 (by decide) ?_
      exact rn_zret 38 (v := true) dX11_doesFit_38 rfl h
def fX11_guestBits_4   (v1 : Int32) (μ : Mem) (K : Int32 → Option (Int32)) : Nat → Int32 → Int32 → Option (Int32)
  | 0, _, _ => none
  | n + 1, v2, v3 =>
    if inb (μ.1 243 18) 2 then
    if v3 < (μ.1 256 (μ.1 243 18).toNatClampNeg) then
      if inb v3 31 then
      if (μ.1 277 v3.toNatClampNeg) = v1 then
        nm (v2 ||| ((1 : Int32) <<< (v3 &&& 31))) fun x1 =>
        fX11_guestBits_4 v1 μ K n x1 (v3 + 1)
      else
        fX11_guestBits_4 v1 μ K n v2 (v3 + 1)
      else none
    else
      K v2
    else none
def fX11_guestBits (a1 : Int32) (μ : Mem) : Option (Int32) :=
  fX11_guestBits_4 a1 μ (fun y2 =>
      some y2
  ) FU 0 0
set_option maxRecDepth 100000 in
theorem wX11_guestBits_4   (v1 : Int32) (μ : Mem) (K : Int32 → Option (Int32)) {res : Int32} (hK : ∀ (v2 : Int32), K v2 = some res → RW mX11_guestBits 1 NF NF 39 [(2, .int v2)] [] (μ, Rf0, NF) (QN (some (.int res)) μ Rf0 NF)) : ∀ (n9 : Nat) (v2 : Int32) (v3 : Int32), fX11_guestBits_4 v1 μ K n9 v2 v3 = some res → RW mX11_guestBits 1 NF NF 4 [(0, .ref 243), (1, .int v1), (2, .int v2), (3, .int v3)] [] (μ, Rf0, NF) (QN (some (.int res)) μ Rf0 NF) := by
  intro n9
  induction n9 with
  | zero => intro _ _ h; cases h
  | succ n ih =>
    intro v2 v3 h
    unfold fX11_guestBits_4 at h
    refine rw_iload_n 4 dX11_guestBits_4 3 rfl ?_
    refine rw_aload_n 5 dX11_guestBits_5 0 rfl ?_
    refine rw_getR 6 11 26 kc11 dX11_guestBits_6 ly_243 rln_243 fX11_55 rfl rf_243_26 ?_
    refine rw_aload_n 9 dX11_guestBits_9 0 rfl ?_
    refine rw_getI 10 11 18 kc11 dX11_guestBits_10 ly_243 rln_243 fX11_236 rfl ?_
    refine rn_iald 13 dX11_guestBits_13 ly_256 rln_256 h (fun h => ?_)
    refine rn_icmp_ge 14 39 dX11_guestBits_14 (by decide) h (fun _ h => ?_) (fun _ h => ?_)
    · refine rw_pick 39 [2] rfl ?_
      exact hK v2 h
    · refine rw_aload_n 17 dX11_guestBits_17 0 rfl ?_
      refine rw_getR 18 11 51 kc11 dX11_guestBits_18 ly_243 rln_243 fX11_119 rfl rf_243_51 ?_
      refine rw_iload_n 21 dX11_guestBits_21 3 rfl ?_
      refine rn_iald 22 dX11_guestBits_22 ly_277 rln_277 h (fun h => ?_)
      refine rw_iload_n 23 dX11_guestBits_23 1 rfl ?_
      refine rn_icmp_ne 24 33 dX11_guestBits_24 (by decide) h (fun _ h => ?_) (fun _ h => ?_)
      · refine rw_iinc 33 [(0, .ref 243), (1, .int v1), (2, .int v2), (3, .int (v3 + 1))] dX11_guestBits_33 3 rfl rfl (by decide) rfl ?_
        refine rw_goto 36 4 dX11_guestBits_36 (by decide) ?_
        exact ih v2 (v3 + 1) h
      · refine rw_iload_n 27 dX11_guestBits_27 2 rfl ?_
        refine rw_iconst 28 (v := 1) dX11_guestBits_28 (by decide) ?_
        refine rw_iload_n 29 dX11_guestBits_29 3 rfl ?_
        refine rw_ishl 30 dX11_guestBits_30 ?_
        refine rw_ior 31 dX11_guestBits_31 ?_
        refine rn_ist_n 32 (fun x1 => [(0, .ref 243), (1, .int v1), (2, .int x1), (3, .int v3)]) dX11_guestBits_32 (by decide) (fun _ => rfl) h (fun x1 h => ?_)
        refine rw_iinc 33 [(0, .ref 243), (1, .int v1), (2, .int x1), (3, .int (v3 + 1))] dX11_guestBits_33 3 rfl rfl (by decide) rfl ?_
        refine rw_goto 36 4 dX11_guestBits_36 (by decide) ?_
        exact ih x1 (v3 + 1) h
set_option maxRecDepth 100000 in
theorem wX11_guestBits (a1 : Int32) (μ : Mem) {res : Int32} (h : fX11_guestBits a1 μ = some res) : Ct mX11_guestBits 1 NF NF [.ref 243, .int a1] (μ, Rf0, NF) (QN (some (.int res)) μ Rf0 NF) := by
  unfold fX11_guestBits at h
  show RW mX11_guestBits 1 NF NF 0 [(0, .ref 243), (1, .int a1)] [] (μ, Rf0, NF) (QN (some (.int res)) μ Rf0 NF)
  refine rw_iconst 0 (v := 0) dX11_guestBits_0 (by decide) ?_
  refine rw_istore_n 1 [(0, .ref 243), (1, .int a1), (2, .int 0)] dX11_guestBits_1 (by decide) rfl ?_
  refine rw_iconst 2 (v := 0) dX11_guestBits_2 (by decide) ?_
  refine rw_istore_n 3 [(0, .ref 243), (1, .int a1), (2, .int 0), (3, .int 0)] dX11_guestBits_3 (by decide) rfl ?_
  refine wX11_guestBits_4 a1 μ _ (fun y2 h => ?_) FU 0 0 h
  refine rw_iload_n 39 dX11_guestBits_39 0 rfl ?_
  exact rn_iret 40 dX11_guestBits_40 rfl h
def fX11_whoIsAt_2   (v1 : Int32) (v2 : Int32) (μ : Mem) (K : Unit → Option (Int32)) : Nat → Int32 → Option (Int32)
  | 0, _ => none
  | n + 1, v3 =>
    if inb (μ.1 243 18) 2 then
    if v3 < (μ.1 256 (μ.1 243 18).toNatClampNeg) then
      if inb v3 31 then
      if (μ.1 277 v3.toNatClampNeg) = v1 then
        (fX11_fromAt v3 μ).bind fun q1 =>
        (fX11_tillAt v3 μ).bind fun q2 =>
        (fX11_in v2 q1 (q2 - 1) μ).bind fun q3 =>
        if q3 = true then
          some v3
        else
          fX11_whoIsAt_2 v1 v2 μ K n (v3 + 1)
      else
        fX11_whoIsAt_2 v1 v2 μ K n (v3 + 1)
      else none
    else
      K ()
    else none
def fX11_whoIsAt (a1 : Int32) (a2 : Int32) (μ : Mem) : Option (Int32) :=
  fX11_whoIsAt_2 a1 a2 μ (fun _ =>
      some (-2)
  ) FU 0
set_option maxRecDepth 100000 in
theorem wX11_whoIsAt_2   (v1 : Int32) (v2 : Int32) (μ : Mem) (K : Unit → Option (Int32)) {res : Int32} (hK : ∀ (_ : Unit), K () = some res → RW mX11_whoIsAt 2 NF NF 52 [] [] (μ, Rf0, NF) (QN (some (.int res)) μ Rf0 NF)) : ∀ (n9 : Nat) (v3 : Int32), fX11_whoIsAt_2 v1 v2 μ K n9 v3 = some res → RW mX11_whoIsAt 2 NF NF 2 [(0, .ref 243), (1, .int v1), (2, .int v2), (3, .int v3)] [] (μ, Rf0, NF) (QN (some (.int res)) μ Rf0 NF) := by
  intro n9
  induction n9 with
  | zero => intro _ h; cases h
  | succ n ih =>
    intro v3 h
    unfold fX11_whoIsAt_2 at h
    refine rw_iload_n 2 dX11_whoIsAt_2 3 rfl ?_
    refine rw_aload_n 3 dX11_whoIsAt_3 0 rfl ?_
    refine rw_getR 4 11 26 kc11 dX11_whoIsAt_4 ly_243 rln_243 fX11_55 rfl rf_243_26 ?_
    refine rw_aload_n 7 dX11_whoIsAt_7 0 rfl ?_
    refine rw_getI 8 11 18 kc11 dX11_whoIsAt_8 ly_243 rln_243 fX11_236 rfl ?_
    refine rn_iald 11 dX11_whoIsAt_11 ly_256 rln_256 h (fun h => ?_)
    refine rn_icmp_ge 12 52 dX11_whoIsAt_12 (by decide) h (fun _ h => ?_) (fun _ h => ?_)
    · refine rw_pick 52 [] rfl ?_
      exact hK () h
    · refine rw_aload_n 15 dX11_whoIsAt_15 0 rfl ?_
      refine rw_getR 16 11 51 kc11 dX11_whoIsAt_16 ly_243 rln_243 fX11_119 rfl rf_243_51 ?_
      refine rw_iload_n 19 dX11_whoIsAt_19 3 rfl ?_
      refine rn_iald 20 dX11_whoIsAt_20 ly_277 rln_277 h (fun h => ?_)
      refine rw_iload_n 21 dX11_whoIsAt_21 1 rfl ?_
      refine rn_icmp_ne 22 46 dX11_whoIsAt_22 (by decide) h (fun _ h => ?_) (fun _ h => ?_)
      · refine rw_iinc 46 [(0, .ref 243), (1, .int v1), (2, .int v2), (3, .int (v3 + 1))] dX11_whoIsAt_46 3 rfl rfl (by decide) rfl ?_
        refine rw_goto 49 2 dX11_whoIsAt_49 (by decide) ?_
        exact ih (v3 + 1) h
      · refine rw_iload_n 25 dX11_whoIsAt_25 2 rfl ?_
        refine rw_aload_n 26 dX11_whoIsAt_26 0 rfl ?_
        refine rw_iload_n 27 dX11_whoIsAt_27 3 rfl ?_
        refine rn_cVpi 28 11 [.int v3] dX11_whoIsAt_28 caX11_fromAt lX11_333 inX11_fromAt slX11_fromAt rfl ly_243 ⟨_, rfl, rfl⟩ rln_243 naX11_fromAt (Nat.le_of_ble_eq_true rfl) (Nat.le_of_ble_eq_true rfl) (by decide) (fun _ hq => wX11_fromAt v3 μ hq) h (fun q1 h => ?_)
        refine rw_aload_n 31 dX11_whoIsAt_31 0 rfl ?_
        refine rw_iload_n 32 dX11_whoIsAt_32 3 rfl ?_
        refine rn_cVpi 33 11 [.int v3] dX11_whoIsAt_33 caX11_tillAt lX11_336 inX11_tillAt slX11_tillAt rfl ly_243 ⟨_, rfl, rfl⟩ rln_243 naX11_tillAt (Nat.le_of_ble_eq_true rfl) (Nat.le_of_ble_eq_true rfl) (by decide) (fun _ hq => wX11_tillAt v3 μ hq) h (fun q2 h => ?_)
        refine rw_iconst 36 (v := 1) dX11_whoIsAt_36 (by decide) ?_
        refine rw_isub 37 dX11_whoIsAt_37 ?_
        refine rn_cSpb 38 [.int v2, .int q1, .int (q2 - 1)] dX11_whoIsAt_38 caX11_in lX11_316 stX11_in rfl naX11_in (Nat.le_of_ble_eq_true rfl) (Nat.le_of_ble_eq_true rfl) (by decide) (fun _ hq => wX11_in v2 q1 (q2 - 1) μ hq) h (fun q3 h => ?_)
        refine rn_ifb_eq 41 46 dX11_whoIsAt_41 (by decide) h (fun _ h => ?_) (fun _ h => ?_)
        · refine rw_iinc 46 [(0, .ref 243), (1, .int v1), (2, .int v2), (3, .int (v3 + 1))] dX11_whoIsAt_46 3 rfl rfl (by decide) rfl ?_
          refine rw_goto 49 2 dX11_whoIsAt_49 (by decide) ?_
          exact ih (v3 + 1) h
        · refine rw_iload_n 44 dX11_whoIsAt_44 3 rfl ?_
          exact rn_iret 45 dX11_whoIsAt_45 rfl h
set_option maxRecDepth 100000 in
theorem wX11_whoIsAt (a1 : Int32) (a2 : Int32) (μ : Mem) {res : Int32} (h : fX11_whoIsAt a1 a2 μ = some res) : Ct mX11_whoIsAt 2 NF NF [.ref 243, .int a1, .int a2] (μ, Rf0, NF) (QN (some (.int res)) μ Rf0 NF) := by
  unfold fX11_whoIsAt at h
  show RW mX11_whoIsAt 2 NF NF 0 [(0, .ref 243), (1, .int a1), (2, .int a2)] [] (μ, Rf0, NF) (QN (some (.int res)) μ Rf0 NF)
  refine rw_iconst 0 (v := 0) dX11_whoIsAt_0 (by decide) ?_
  refine rw_istore_n 1 [(0, .ref 243), (1, .int a1), (2, .int a2), (3, .int 0)] dX11_whoIsAt_1 (by decide) rfl ?_
  refine wX11_whoIsAt_2 a1 a2 μ _ (fun _ h => ?_) FU 0 h
  refine rw_bipush 52 (v := -2) dX11_whoIsAt_52 (by decide) ?_
  exact rn_iret 54 dX11_whoIsAt_54 rfl h
def fX11_hoursTaken_4   (v1 : Int32) (μ : Mem) (K : Int32 → Option (Int32)) : Nat → Int32 → Int32 → Option (Int32)
  | 0, _, _ => none
  | n + 1, v2, v3 =>
    if inb (μ.1 243 18) 2 then
    if v3 < (μ.1 256 (μ.1 243 18).toNatClampNeg) then
      if inb v3 31 then
      if (μ.1 277 v3.toNatClampNeg) = v1 then
        if inb ((7 * (μ.1 243 18)) + v3) 14 then
        nm (v2 + (μ.1 258 ((7 * (μ.1 243 18)) + v3).toNatClampNeg)) fun x1 =>
        fX11_hoursTaken_4 v1 μ K n x1 (v3 + 1)
        else none
      else
        fX11_hoursTaken_4 v1 μ K n v2 (v3 + 1)
      else none
    else
      K v2
    else none
def fX11_hoursTaken (a1 : Int32) (μ : Mem) : Option (Int32) :=
  fX11_hoursTaken_4 a1 μ (fun y2 =>
      some y2
  ) FU 0 0
set_option maxRecDepth 100000 in
theorem wX11_hoursTaken_4   (v1 : Int32) (μ : Mem) (K : Int32 → Option (Int32)) {res : Int32} (hK : ∀ (v2 : Int32), K v2 = some res → RW mX11_hoursTaken 1 NF NF 50 [(2, .int v2)] [] (μ, Rf0, NF) (QN (some (.int res)) μ Rf0 NF)) : ∀ (n9 : Nat) (v2 : Int32) (v3 : Int32), fX11_hoursTaken_4 v1 μ K n9 v2 v3 = some res → RW mX11_hoursTaken 1 NF NF 4 [(0, .ref 243), (1, .int v1), (2, .int v2), (3, .int v3)] [] (μ, Rf0, NF) (QN (some (.int res)) μ Rf0 NF) := by
  intro n9
  induction n9 with
  | zero => intro _ _ h; cases h
  | succ n ih =>
    intro v2 v3 h
    unfold fX11_hoursTaken_4 at h
    refine rw_iload_n 4 dX11_hoursTaken_4 3 rfl ?_
    refine rw_aload_n 5 dX11_hoursTaken_5 0 rfl ?_
    refine rw_getR 6 11 26 kc11 dX11_hoursTaken_6 ly_243 rln_243 fX11_55 rfl rf_243_26 ?_
    refine rw_aload_n 9 dX11_hoursTaken_9 0 rfl ?_
    refine rw_getI 10 11 18 kc11 dX11_hoursTaken_10 ly_243 rln_243 fX11_236 rfl ?_
    refine rn_iald 13 dX11_hoursTaken_13 ly_256 rln_256 h (fun h => ?_)
    refine rn_icmp_ge 14 50 dX11_hoursTaken_14 (by decide) h (fun _ h => ?_) (fun _ h => ?_)
    · refine rw_pick 50 [2] rfl ?_
      exact hK v2 h
    · refine rw_aload_n 17 dX11_hoursTaken_17 0 rfl ?_
      refine rw_getR 18 11 51 kc11 dX11_hoursTaken_18 ly_243 rln_243 fX11_119 rfl rf_243_51 ?_
      refine rw_iload_n 21 dX11_hoursTaken_21 3 rfl ?_
      refine rn_iald 22 dX11_hoursTaken_22 ly_277 rln_277 h (fun h => ?_)
      refine rw_iload_n 23 dX11_hoursTaken_23 1 rfl ?_
      refine rn_icmp_ne 24 44 dX11_hoursTaken_24 (by decide) h (fun _ h => ?_) (fun _ h => ?_)
      · refine rw_iinc 44 [(0, .ref 243), (1, .int v1), (2, .int v2), (3, .int (v3 + 1))] dX11_hoursTaken_44 3 rfl rfl (by decide) rfl ?_
        refine rw_goto 47 4 dX11_hoursTaken_47 (by decide) ?_
        exact ih v2 (v3 + 1) h
      · refine rw_iload_n 27 dX11_hoursTaken_27 2 rfl ?_
        refine rw_aload_n 28 dX11_hoursTaken_28 0 rfl ?_
        refine rw_getR 29 11 28 kc11 dX11_hoursTaken_29 ly_243 rln_243 fX11_61 rfl rf_243_28 ?_
        refine rw_bipush 32 (v := 7) dX11_hoursTaken_32 (by decide) ?_
        refine rw_aload_n 34 dX11_hoursTaken_34 0 rfl ?_
        refine rw_getI 35 11 18 kc11 dX11_hoursTaken_35 ly_243 rln_243 fX11_236 rfl ?_
        refine rw_imul 38 dX11_hoursTaken_38 ?_
        refine rw_iload_n 39 dX11_hoursTaken_39 3 rfl ?_
        refine rw_iadd 40 dX11_hoursTaken_40 ?_
        refine rn_iald 41 dX11_hoursTaken_41 ly_258 rln_258 h (fun h => ?_)
        refine rw_iadd 42 dX11_hoursTaken_42 ?_
        refine rn_ist_n 43 (fun x1 => [(0, .ref 243), (1, .int v1), (2, .int x1), (3, .int v3)]) dX11_hoursTaken_43 (by decide) (fun _ => rfl) h (fun x1 h => ?_)
        refine rw_iinc 44 [(0, .ref 243), (1, .int v1), (2, .int x1), (3, .int (v3 + 1))] dX11_hoursTaken_44 3 rfl rfl (by decide) rfl ?_
        refine rw_goto 47 4 dX11_hoursTaken_47 (by decide) ?_
        exact ih x1 (v3 + 1) h
set_option maxRecDepth 100000 in
theorem wX11_hoursTaken (a1 : Int32) (μ : Mem) {res : Int32} (h : fX11_hoursTaken a1 μ = some res) : Ct mX11_hoursTaken 1 NF NF [.ref 243, .int a1] (μ, Rf0, NF) (QN (some (.int res)) μ Rf0 NF) := by
  unfold fX11_hoursTaken at h
  show RW mX11_hoursTaken 1 NF NF 0 [(0, .ref 243), (1, .int a1)] [] (μ, Rf0, NF) (QN (some (.int res)) μ Rf0 NF)
  refine rw_iconst 0 (v := 0) dX11_hoursTaken_0 (by decide) ?_
  refine rw_istore_n 1 [(0, .ref 243), (1, .int a1), (2, .int 0)] dX11_hoursTaken_1 (by decide) rfl ?_
  refine rw_iconst 2 (v := 0) dX11_hoursTaken_2 (by decide) ?_
  refine rw_istore_n 3 [(0, .ref 243), (1, .int a1), (2, .int 0), (3, .int 0)] dX11_hoursTaken_3 (by decide) rfl ?_
  refine wX11_hoursTaken_4 a1 μ _ (fun y2 h => ?_) FU 0 0 h
  refine rw_iload_n 50 dX11_hoursTaken_50 0 rfl ?_
  exact rn_iret 51 dX11_hoursTaken_51 rfl h
def fX11_livingBits_4    (μ : Mem) (K : Int32 → Option (Int32)) : Nat → Int32 → Int32 → Option (Int32)
  | 0, _, _ => none
  | n + 1, v1, v2 =>
    if inb (μ.1 243 18) 2 then
    if v2 < (μ.1 256 (μ.1 243 18).toNatClampNeg) then
      if inb (14 + v2) 31 then
      if (μ.1 277 (14 + v2).toNatClampNeg) = 0 then
        nm (v1 ||| ((1 : Int32) <<< (v2 &&& 31))) fun x1 =>
        fX11_livingBits_4 μ K n x1 (v2 + 1)
      else
        fX11_livingBits_4 μ K n v1 (v2 + 1)
      else none
    else
      K v1
    else none
def fX11_livingBits  (μ : Mem) : Option (Int32) :=
  fX11_livingBits_4 μ (fun y2 =>
      some y2
  ) FU 0 0
set_option maxRecDepth 100000 in
theorem wX11_livingBits_4    (μ : Mem) (K : Int32 → Option (Int32)) {res : Int32} (hK : ∀ (v1 : Int32), K v1 = some res → RW mX11_livingBits 1 NF NF 41 [(1, .int v1)] [] (μ, Rf0, NF) (QN (some (.int res)) μ Rf0 NF)) : ∀ (n9 : Nat) (v1 : Int32) (v2 : Int32), fX11_livingBits_4 μ K n9 v1 v2 = some res → RW mX11_livingBits 1 NF NF 4 [(0, .ref 243), (1, .int v1), (2, .int v2)] [] (μ, Rf0, NF) (QN (some (.int res)) μ Rf0 NF) := by
  intro n9
  induction n9 with
  | zero => intro _ _ h; cases h
  | succ n ih =>
    intro v1 v2 h
    unfold fX11_livingBits_4 at h
    refine rw_iload_n 4 dX11_livingBits_4 2 rfl ?_
    refine rw_aload_n 5 dX11_livingBits_5 0 rfl ?_
    refine rw_getR 6 11 26 kc11 dX11_livingBits_6 ly_243 rln_243 fX11_55 rfl rf_243_26 ?_
    refine rw_aload_n 9 dX11_livingBits_9 0 rfl ?_
    refine rw_getI 10 11 18 kc11 dX11_livingBits_10 ly_243 rln_243 fX11_236 rfl ?_
    refine rn_iald 13 dX11_livingBits_13 ly_256 rln_256 h (fun h => ?_)
    refine rn_icmp_ge 14 41 dX11_livingBits_14 (by decide) h (fun _ h => ?_) (fun _ h => ?_)
    · refine rw_pick 41 [1] rfl ?_
      exact hK v1 h
    · refine rw_aload_n 17 dX11_livingBits_17 0 rfl ?_
      refine rw_getR 18 11 51 kc11 dX11_livingBits_18 ly_243 rln_243 fX11_119 rfl rf_243_51 ?_
      refine rw_bipush 21 (v := 14) dX11_livingBits_21 (by decide) ?_
      refine rw_iload_n 23 dX11_livingBits_23 2 rfl ?_
      refine rw_iadd 24 dX11_livingBits_24 ?_
      refine rn_iald 25 dX11_livingBits_25 ly_277 rln_277 h (fun h => ?_)
      refine rn_if_ne 26 35 dX11_livingBits_26 (by decide) h (fun _ h => ?_) (fun _ h => ?_)
      · refine rw_iinc 35 [(0, .ref 243), (1, .int v1), (2, .int (v2 + 1))] dX11_livingBits_35 2 rfl rfl (by decide) rfl ?_
        refine rw_goto 38 4 dX11_livingBits_38 (by decide) ?_
        exact ih v1 (v2 + 1) h
      · refine rw_iload_n 29 dX11_livingBits_29 1 rfl ?_
        refine rw_iconst 30 (v := 1) dX11_livingBits_30 (by decide) ?_
        refine rw_iload_n 31 dX11_livingBits_31 2 rfl ?_
        refine rw_ishl 32 dX11_livingBits_32 ?_
        refine rw_ior 33 dX11_livingBits_33 ?_
        refine rn_ist_n 34 (fun x1 => [(0, .ref 243), (1, .int x1), (2, .int v2)]) dX11_livingBits_34 (by decide) (fun _ => rfl) h (fun x1 h => ?_)
        refine rw_iinc 35 [(0, .ref 243), (1, .int x1), (2, .int (v2 + 1))] dX11_livingBits_35 2 rfl rfl (by decide) rfl ?_
        refine rw_goto 38 4 dX11_livingBits_38 (by decide) ?_
        exact ih x1 (v2 + 1) h
set_option maxRecDepth 100000 in
theorem wX11_livingBits  (μ : Mem) {res : Int32} (h : fX11_livingBits  μ = some res) : Ct mX11_livingBits 1 NF NF [.ref 243] (μ, Rf0, NF) (QN (some (.int res)) μ Rf0 NF) := by
  unfold fX11_livingBits at h
  show RW mX11_livingBits 1 NF NF 0 [(0, .ref 243)] [] (μ, Rf0, NF) (QN (some (.int res)) μ Rf0 NF)
  refine rw_iconst 0 (v := 0) dX11_livingBits_0 (by decide) ?_
  refine rw_istore_n 1 [(0, .ref 243), (1, .int 0)] dX11_livingBits_1 (by decide) rfl ?_
  refine rw_iconst 2 (v := 0) dX11_livingBits_2 (by decide) ?_
  refine rw_istore_n 3 [(0, .ref 243), (1, .int 0), (2, .int 0)] dX11_livingBits_3 (by decide) rfl ?_
  refine wX11_livingBits_4 μ _ (fun y2 h => ?_) FU 0 0 h
  refine rw_iload_n 41 dX11_livingBits_41 0 rfl ?_
  exact rn_iret 42 dX11_livingBits_42 rfl h
def fX11_lawTells_j125    (v4 : Int32) (μ : Mem) : Option (Int32 × Mem) :=
  if inb v4 260 then
  if inb v4 260 then
  (fX11_termOf (μ.1 269 v4.toNatClampNeg) (μ.1 270 v4.toNatClampNeg) μ).bind fun q4 =>
  if (q4.2.1 243 49) = 0 then
    (fX11_within q4.1 0 99 q4.2).bind fun q5 =>
    some (q5, q4.2)
  else
    some (0, q4.2)
  else none
  else none
def fX11_lawTells_45   (v3 : Int32)  (K : Mem → Option (Int32 × Mem)) : Nat → Int32 → Mem → Option (Int32 × Mem)
  | 0, _, _ => none
  | n + 1, v4, μ =>
    if inb v3 8 then
    if v4 < (μ.1 265 v3.toNatClampNeg) then
      if inb v4 260 then
      if (μ.1 266 v4.toNatClampNeg) = 0 then
        fX11_lawTells_j125 v4 μ
      else
        if inb v4 260 then
        if inb v4 260 then
        (fX11_termOf (μ.1 267 v4.toNatClampNeg) (μ.1 268 v4.toNatClampNeg) μ).bind fun q6 =>
        if inb v4 260 then
        if inb v4 260 then
        (fX11_termOf (q6.2.1 268 v4.toNatClampNeg) (q6.2.1 269 v4.toNatClampNeg) q6.2).bind fun q7 =>
        if (q7.2.1 243 49) = 0 then
          if q6.1 < q7.1 then
            fX11_lawTells_j125 v4 q7.2
          else
            fX11_lawTells_45 v3 K n (v4 + 1) q7.2
        else
          some (0, q7.2)
        else none
        else none
        else none
        else none
      else none
    else
      K μ
    else none
def fX11_lawTells (a1 : Int32) (a2 : Int32) (μ : Mem) : Option (Int32 × Mem) :=
  nm ((4 * (μ.1 243 18)) + a1) fun x1 =>
  if inb x1 8 then
  if inb x1 8 then
  if (μ.1 264 x1.toNatClampNeg) = (μ.1 265 x1.toNatClampNeg) then
    (fX11_within a2 0 99 μ).bind fun q9 =>
    some (q9, μ)
  else
    nm (wI μ 243 49 0) fun μ2 =>
    if inb x1 8 then
    nm (μ2.1 264 x1.toNatClampNeg) fun x3 =>
    fX11_lawTells_45 x1 (fun μ8 =>
        some (0, μ8)
    ) FU x3 μ2
    else none
  else none
  else none
set_option maxRecDepth 100000 in
theorem wX11_lawTells_j125   {res : Int32 × Mem} (v4 : Int32) (μ : Mem)  (h : fX11_lawTells_j125 v4 μ = some res) : RW mX11_lawTells 2 NF NF 125 [(0, .ref 243), (4, .int v4)] [] (μ, Rf0, NF) (QN (some (.int res.1)) res.2 Rf0 NF) := by
  unfold fX11_lawTells_j125 at h
  refine rw_aload_n 125 dX11_lawTells_125 0 rfl ?_
  refine rw_aload_n 126 dX11_lawTells_126 0 rfl ?_
  refine rw_getR 127 11 40 kc11 dX11_lawTells_127 ly_243 rln_243 fX11_95 rfl rf_243_40 ?_
  refine rw_iload 130 dX11_lawTells_130 1 rfl ?_
  refine rn_iald 132 dX11_lawTells_132 ly_269 rln_269 h (fun h => ?_)
  refine rw_aload_n 133 dX11_lawTells_133 0 rfl ?_
  refine rw_getR 134 11 41 kc11 dX11_lawTells_134 ly_243 rln_243 fX11_98 rfl rf_243_41 ?_
  refine rw_iload 137 dX11_lawTells_137 1 rfl ?_
  refine rn_iald 139 dX11_lawTells_139 ly_270 rln_270 h (fun h => ?_)
  refine rn_cVmi 140 11 [.int (μ.1 269 v4.toNatClampNeg), .int (μ.1 270 v4.toNatClampNeg)] dX11_lawTells_140 caX11_termOf lX11_346 inX11_termOf slX11_termOf rfl ly_243 ⟨_, rfl, rfl⟩ rln_243 naX11_termOf (Nat.le_of_ble_eq_true rfl) (Nat.le_of_ble_eq_true rfl) (by decide) (fun _ hq => wX11_termOf (μ.1 269 v4.toNatClampNeg) (μ.1 270 v4.toNatClampNeg) μ hq) h (fun q4 h => ?_)
  refine rw_istore 143 [(0, .ref 243), (4, .int v4), (5, .int q4.1)] dX11_lawTells_143 (by decide) rfl ?_
  refine rw_aload_n 145 dX11_lawTells_145 0 rfl ?_
  refine rw_getI 146 11 49 kc11 dX11_lawTells_146 ly_243 rln_243 fX11_312 rfl ?_
  refine rn_if_eq 149 156 dX11_lawTells_149 (by decide) h (fun _ h => ?_) (fun _ h => ?_)
  · refine rw_iload 156 dX11_lawTells_156 2 rfl ?_
    refine rw_iconst 158 (v := 0) dX11_lawTells_158 (by decide) ?_
    refine rw_bipush 159 (v := 99) dX11_lawTells_159 (by decide) ?_
    refine rn_cSpi 161 [.int q4.1, .int 0, .int 99] dX11_lawTells_161 caX11_within lX11_343 stX11_within rfl naX11_within (Nat.le_of_ble_eq_true rfl) (Nat.le_of_ble_eq_true rfl) (by decide) (fun _ hq => wX11_within q4.1 0 99 q4.2 hq) h (fun q5 h => ?_)
    exact rn_iret2 164 dX11_lawTells_164 rfl h
  · refine rw_iconst 152 (v := 0) dX11_lawTells_152 (by decide) ?_
    refine rw_goto 153 164 dX11_lawTells_153 (by decide) ?_
    exact rn_iret2 164 dX11_lawTells_164 rfl h
set_option maxRecDepth 100000 in
theorem wX11_lawTells_45   (v3 : Int32)  (K : Mem → Option (Int32 × Mem)) {res : Int32 × Mem} (hK : ∀  (μ : Mem), K μ = some res → RW mX11_lawTells 2 NF NF 171 [] [] (μ, Rf0, NF) (QN (some (.int res.1)) res.2 Rf0 NF)) : ∀ (n9 : Nat) (v4 : Int32) (μ : Mem), fX11_lawTells_45 v3 K n9 v4 μ = some res → RW mX11_lawTells 2 NF NF 45 [(0, .ref 243), (3, .int v3), (4, .int v4)] [] (μ, Rf0, NF) (QN (some (.int res.1)) res.2 Rf0 NF) := by
  intro n9
  induction n9 with
  | zero => intro _ _ h; cases h
  | succ n ih =>
    intro v4 μ h
    unfold fX11_lawTells_45 at h
    refine rw_iload 45 dX11_lawTells_45 2 rfl ?_
    refine rw_aload_n 47 dX11_lawTells_47 0 rfl ?_
    refine rw_getR 48 11 35 kc11 dX11_lawTells_48 ly_243 rln_243 fX11_82 rfl rf_243_35 ?_
    refine rw_iload_n 51 dX11_lawTells_51 1 rfl ?_
    refine rn_iald 52 dX11_lawTells_52 ly_265 rln_265 h (fun h => ?_)
    refine rn_icmp_ge 53 171 dX11_lawTells_53 (by decide) h (fun _ h => ?_) (fun _ h => ?_)
    · refine rw_pick 171 [] rfl ?_
      exact hK μ h
    · refine rw_aload_n 56 dX11_lawTells_56 0 rfl ?_
      refine rw_getR 57 11 37 kc11 dX11_lawTells_57 ly_243 rln_243 fX11_85 rfl rf_243_37 ?_
      refine rw_iload 60 dX11_lawTells_60 2 rfl ?_
      refine rn_zald 62 dX11_lawTells_62 ly_266 rln_266 h (fun h => ?_)
      refine rn_if_eq 63 125 dX11_lawTells_63 (by decide) h (fun _ h => ?_) (fun _ h => ?_)
      · refine rw_pick 125 [0, 2] rfl ?_
        exact wX11_lawTells_j125 v4 μ h
      · refine rw_aload_n 66 dX11_lawTells_66 0 rfl ?_
        refine rw_aload_n 67 dX11_lawTells_67 0 rfl ?_
        refine rw_getR 68 11 38 kc11 dX11_lawTells_68 ly_243 rln_243 fX11_89 rfl rf_243_38 ?_
        refine rw_iload 71 dX11_lawTells_71 2 rfl ?_
        refine rn_iald 73 dX11_lawTells_73 ly_267 rln_267 h (fun h => ?_)
        refine rw_aload_n 74 dX11_lawTells_74 0 rfl ?_
        refine rw_getR 75 11 39 kc11 dX11_lawTells_75 ly_243 rln_243 fX11_92 rfl rf_243_39 ?_
        refine rw_iload 78 dX11_lawTells_78 2 rfl ?_
        refine rn_iald 80 dX11_lawTells_80 ly_268 rln_268 h (fun h => ?_)
        refine rn_cVmi 81 11 [.int (μ.1 267 v4.toNatClampNeg), .int (μ.1 268 v4.toNatClampNeg)] dX11_lawTells_81 caX11_termOf lX11_346 inX11_termOf slX11_termOf rfl ly_243 ⟨_, rfl, rfl⟩ rln_243 naX11_termOf (Nat.le_of_ble_eq_true rfl) (Nat.le_of_ble_eq_true rfl) (by decide) (fun _ hq => wX11_termOf (μ.1 267 v4.toNatClampNeg) (μ.1 268 v4.toNatClampNeg) μ hq) h (fun q6 h => ?_)
        refine rw_istore 84 [(0, .ref 243), (3, .int v3), (4, .int v4), (5, .int q6.1)] dX11_lawTells_84 (by decide) rfl ?_
        refine rw_aload_n 86 dX11_lawTells_86 0 rfl ?_
        refine rw_aload_n 87 dX11_lawTells_87 0 rfl ?_
        refine rw_getR 88 11 39 kc11 dX11_lawTells_88 ly_243 rln_243 fX11_92 rfl rf_243_39 ?_
        refine rw_iload 91 dX11_lawTells_91 2 rfl ?_
        refine rn_iald 93 dX11_lawTells_93 ly_268 rln_268 h (fun h => ?_)
        refine rw_aload_n 94 dX11_lawTells_94 0 rfl ?_
        refine rw_getR 95 11 40 kc11 dX11_lawTells_95 ly_243 rln_243 fX11_95 rfl rf_243_40 ?_
        refine rw_iload 98 dX11_lawTells_98 2 rfl ?_
        refine rn_iald 100 dX11_lawTells_100 ly_269 rln_269 h (fun h => ?_)
        refine rn_cVmi 101 11 [.int (q6.2.1 268 v4.toNatClampNeg), .int (q6.2.1 269 v4.toNatClampNeg)] dX11_lawTells_101 caX11_termOf lX11_346 inX11_termOf slX11_termOf rfl ly_243 ⟨_, rfl, rfl⟩ rln_243 naX11_termOf (Nat.le_of_ble_eq_true rfl) (Nat.le_of_ble_eq_true rfl) (by decide) (fun _ hq => wX11_termOf (q6.2.1 268 v4.toNatClampNeg) (q6.2.1 269 v4.toNatClampNeg) q6.2 hq) h (fun q7 h => ?_)
        refine rw_istore 104 [(0, .ref 243), (3, .int v3), (4, .int v4), (5, .int q6.1), (6, .int q7.1)] dX11_lawTells_104 (by decide) rfl ?_
        refine rw_aload_n 106 dX11_lawTells_106 0 rfl ?_
        refine rw_getI 107 11 49 kc11 dX11_lawTells_107 ly_243 rln_243 fX11_312 rfl ?_
        refine rn_if_eq 110 115 dX11_lawTells_110 (by decide) h (fun _ h => ?_) (fun _ h => ?_)
        · refine rw_iload 115 dX11_lawTells_115 3 rfl ?_
          refine rw_iload 117 dX11_lawTells_117 4 rfl ?_
          refine rn_icmp_lt 119 125 dX11_lawTells_119 (by decide) h (fun _ h => ?_) (fun _ h => ?_)
          · refine rw_pick 125 [0, 2] rfl ?_
            exact wX11_lawTells_j125 v4 q7.2 h
          · refine rw_goto 122 165 dX11_lawTells_122 (by decide) ?_
            refine rw_iinc 165 [(0, .ref 243), (3, .int v3), (4, .int (v4 + 1)), (5, .int q6.1), (6, .int q7.1)] dX11_lawTells_165 2 rfl rfl (by decide) rfl ?_
            refine rw_goto 168 45 dX11_lawTells_168 (by decide) ?_
            refine rw_pick 45 [0, 1, 2] rfl ?_
            exact ih (v4 + 1) q7.2 h
        · refine rw_iconst 113 (v := 0) dX11_lawTells_113 (by decide) ?_
          exact rn_iret2 114 dX11_lawTells_114 rfl h
set_option maxRecDepth 100000 in
theorem wX11_lawTells (a1 : Int32) (a2 : Int32) (μ : Mem) {res : Int32 × Mem} (h : fX11_lawTells a1 a2 μ = some res) : Ct mX11_lawTells 2 NF NF [.ref 243, .int a1, .int a2] (μ, Rf0, NF) (QN (some (.int res.1)) res.2 Rf0 NF) := by
  unfold fX11_lawTells at h
  show RW mX11_lawTells 2 NF NF 0 [(0, .ref 243), (1, .int a1), (2, .int a2)] [] (μ, Rf0, NF) (QN (some (.int res.1)) res.2 Rf0 NF)
  refine rw_iconst 0 (v := 4) dX11_lawTells_0 (by decide) ?_
  refine rw_aload_n 1 dX11_lawTells_1 0 rfl ?_
  refine rw_getI 2 11 18 kc11 dX11_lawTells_2 ly_243 rln_243 fX11_236 rfl ?_
  refine rw_imul 5 dX11_lawTells_5 ?_
  refine rw_iload_n 6 dX11_lawTells_6 1 rfl ?_
  refine rw_iadd 7 dX11_lawTells_7 ?_
  refine rn_ist_n 8 (fun x1 => [(0, .ref 243), (1, .int a1), (2, .int a2), (3, .int x1)]) dX11_lawTells_8 (by decide) (fun _ => rfl) h (fun x1 h => ?_)
  refine rw_aload_n 9 dX11_lawTells_9 0 rfl ?_
  refine rw_getR 10 11 34 kc11 dX11_lawTells_10 ly_243 rln_243 fX11_79 rfl rf_243_34 ?_
  refine rw_iload_n 13 dX11_lawTells_13 3 rfl ?_
  refine rn_iald 14 dX11_lawTells_14 ly_264 rln_264 h (fun h => ?_)
  refine rw_aload_n 15 dX11_lawTells_15 0 rfl ?_
  refine rw_getR 16 11 35 kc11 dX11_lawTells_16 ly_243 rln_243 fX11_82 rfl rf_243_35 ?_
  refine rw_iload_n 19 dX11_lawTells_19 3 rfl ?_
  refine rn_iald 20 dX11_lawTells_20 ly_265 rln_265 h (fun h => ?_)
  refine rn_icmp_ne 21 32 dX11_lawTells_21 (by decide) h (fun _ h => ?_) (fun _ h => ?_)
  · refine rw_aload_n 32 dX11_lawTells_32 0 rfl ?_
    refine rw_iconst 33 (v := 0) dX11_lawTells_33 (by decide) ?_
    refine rn_putI 34 11 49 kc11 dX11_lawTells_34 ly_243 rln_243 fX11_312 (fun q hq => by cases hq; rfl) rfl rfl rfl h (fun μ2 h => ?_)
    refine rw_aload_n 37 dX11_lawTells_37 0 rfl ?_
    refine rw_getR 38 11 34 kc11 dX11_lawTells_38 ly_243 rln_243 fX11_79 rfl rf_243_34 ?_
    refine rw_iload_n 41 dX11_lawTells_41 3 rfl ?_
    refine rn_iald 42 dX11_lawTells_42 ly_264 rln_264 h (fun h => ?_)
    refine rn_ist 43 (fun x3 => [(0, .ref 243), (1, .int a1), (2, .int a2), (3, .int x1), (4, .int x3)]) dX11_lawTells_43 (by decide) (fun _ => rfl) h (fun x3 h => ?_)
    refine rw_pick 45 [0, 3, 4] rfl ?_
    refine wX11_lawTells_45 x1 _ (fun μ8 h => ?_) FU x3 μ2 h
    refine rw_iconst 171 (v := 0) dX11_lawTells_171 (by decide) ?_
    exact rn_iret2 172 dX11_lawTells_172 rfl h
  · refine rw_iload_n 24 dX11_lawTells_24 2 rfl ?_
    refine rw_iconst 25 (v := 0) dX11_lawTells_25 (by decide) ?_
    refine rw_bipush 26 (v := 99) dX11_lawTells_26 (by decide) ?_
    refine rn_cSpi 28 [.int a2, .int 0, .int 99] dX11_lawTells_28 caX11_within lX11_343 stX11_within rfl naX11_within (Nat.le_of_ble_eq_true rfl) (Nat.le_of_ble_eq_true rfl) (by decide) (fun _ hq => wX11_within a2 0 99 μ hq) h (fun q9 h => ?_)
    exact rn_iret2 31 dX11_lawTells_31 rfl h
def fX11_looksAt (a1 : Int32) (μ : Mem) : Option (Mem) :=
  if inb (21 + a1) 31 then
  nm (wI μ 274 4 (μ.1 277 (21 + a1).toNatClampNeg)) fun μ1 =>
  if inb ((4 * (μ1.1 243 18)) + a1) 8 then
  nm (wI μ1 274 5 (μ1.1 255 ((4 * (μ1.1 243 18)) + a1).toNatClampNeg)) fun μ2 =>
  nm (wI μ2 274 6 (μ2.1 277 29)) fun μ3 =>
  some μ3
  else none
  else none
set_option maxRecDepth 100000 in
theorem wX11_looksAt (a1 : Int32) (μ : Mem) {res : Mem} (h : fX11_looksAt a1 μ = some res) : Ct mX11_looksAt 1 NF NF [.ref 243, .int a1] (μ, Rf0, NF) (QN none res Rf0 NF) := by
  unfold fX11_looksAt at h
  show RW mX11_looksAt 1 NF NF 0 [(0, .ref 243), (1, .int a1)] [] (μ, Rf0, NF) (QN none res Rf0 NF)
  refine rw_aload_n 0 dX11_looksAt_0 0 rfl ?_
  refine rw_getR 1 11 47 kc11 dX11_looksAt_1 ly_243 rln_243 fX11_110 rfl rf_243_47 ?_
  refine rw_iconst 4 (v := 4) dX11_looksAt_4 (by decide) ?_
  refine rw_aload_n 5 dX11_looksAt_5 0 rfl ?_
  refine rw_getR 6 11 51 kc11 dX11_looksAt_6 ly_243 rln_243 fX11_119 rfl rf_243_51 ?_
  refine rw_bipush 9 (v := 21) dX11_looksAt_9 (by decide) ?_
  refine rw_iload_n 11 dX11_looksAt_11 1 rfl ?_
  refine rw_iadd 12 dX11_looksAt_12 ?_
  refine rn_iald 13 dX11_looksAt_13 ly_277 rln_277 h (fun h => ?_)
  refine rn_iastc 14 dX11_looksAt_14 ly_274 rln_274 (by decide) (j := 4) (by decide) h (fun μ1 h => ?_)
  refine rw_aload_n 15 dX11_looksAt_15 0 rfl ?_
  refine rw_getR 16 11 47 kc11 dX11_looksAt_16 ly_243 rln_243 fX11_110 rfl rf_243_47 ?_
  refine rw_iconst 19 (v := 5) dX11_looksAt_19 (by decide) ?_
  refine rw_aload_n 20 dX11_looksAt_20 0 rfl ?_
  refine rw_getR 21 11 25 kc11 dX11_looksAt_21 ly_243 rln_243 fX11_52 rfl rf_243_25 ?_
  refine rw_iconst 24 (v := 4) dX11_looksAt_24 (by decide) ?_
  refine rw_aload_n 25 dX11_looksAt_25 0 rfl ?_
  refine rw_getI 26 11 18 kc11 dX11_looksAt_26 ly_243 rln_243 fX11_236 rfl ?_
  refine rw_imul 29 dX11_looksAt_29 ?_
  refine rw_iload_n 30 dX11_looksAt_30 1 rfl ?_
  refine rw_iadd 31 dX11_looksAt_31 ?_
  refine rn_iald 32 dX11_looksAt_32 ly_255 rln_255 h (fun h => ?_)
  refine rn_iastc 33 dX11_looksAt_33 ly_274 rln_274 (by decide) (j := 5) (by decide) h (fun μ2 h => ?_)
  refine rw_aload_n 34 dX11_looksAt_34 0 rfl ?_
  refine rw_getR 35 11 47 kc11 dX11_looksAt_35 ly_243 rln_243 fX11_110 rfl rf_243_47 ?_
  refine rw_bipush 38 (v := 6) dX11_looksAt_38 (by decide) ?_
  refine rw_aload_n 40 dX11_looksAt_40 0 rfl ?_
  refine rw_getR 41 11 51 kc11 dX11_looksAt_41 ly_243 rln_243 fX11_119 rfl rf_243_51 ?_
  refine rw_bipush 44 (v := 29) dX11_looksAt_44 (by decide) ?_
  refine rn_ialdc 46 dX11_looksAt_46 ly_277 rln_277 (by decide) (j := 29) (by decide) ?_
  refine rn_iastc 47 dX11_looksAt_47 ly_274 rln_274 (by decide) (j := 6) (by decide) h (fun μ3 h => ?_)
  exact rn_vret 48 dX11_looksAt_48 rfl h
def fX11_looks (a1 : Int32) (a2 : Int32) (a3 : Int32) (μ : Mem) : Option (Mem) :=
  (fX11_looksAt a2 μ).bind fun q1 =>
  if inb ((7 * (q1.1 243 18)) + a1) 14 then
  nm (wI q1 274 0 (q1.1 259 ((7 * (q1.1 243 18)) + a1).toNatClampNeg)) fun μ2 =>
  if inb ((7 * (μ2.1 243 18)) + a1) 14 then
  nm (wI μ2 274 1 (μ2.1 258 ((7 * (μ2.1 243 18)) + a1).toNatClampNeg)) fun μ3 =>
  (fX11_fromAt a1 μ3).bind fun q4 =>
  nm (wI μ3 274 2 q4) fun μ5 =>
  if inb (7 + a1) 31 then
  nm (wI μ5 274 3 (μ5.1 277 (7 + a1).toNatClampNeg)) fun μ6 =>
  nm (wI μ6 274 7 a1) fun μ7 =>
  nm (wI μ7 274 8 a3) fun μ8 =>
  some μ8
  else none
  else none
  else none
set_option maxRecDepth 100000 in
theorem wX11_looks (a1 : Int32) (a2 : Int32) (a3 : Int32) (μ : Mem) {res : Mem} (h : fX11_looks a1 a2 a3 μ = some res) : Ct mX11_looks 2 NF NF [.ref 243, .int a1, .int a2, .int a3] (μ, Rf0, NF) (QN none res Rf0 NF) := by
  unfold fX11_looks at h
  show RW mX11_looks 2 NF NF 0 [(0, .ref 243), (1, .int a1), (2, .int a2), (3, .int a3)] [] (μ, Rf0, NF) (QN none res Rf0 NF)
  refine rw_aload_n 0 dX11_looks_0 0 rfl ?_
  refine rw_iload_n 1 dX11_looks_1 2 rfl ?_
  refine rn_cVmv 2 11 [.int a2] dX11_looks_2 caX11_looksAt lX11_349 inX11_looksAt slX11_looksAt rfl ly_243 ⟨_, rfl, rfl⟩ rln_243 naX11_looksAt (Nat.le_of_ble_eq_true rfl) (Nat.le_of_ble_eq_true rfl) (by decide) (fun _ hq => wX11_looksAt a2 μ hq) h (fun q1 h => ?_)
  refine rw_aload_n 5 dX11_looks_5 0 rfl ?_
  refine rw_getR 6 11 47 kc11 dX11_looks_6 ly_243 rln_243 fX11_110 rfl rf_243_47 ?_
  refine rw_iconst 9 (v := 0) dX11_looks_9 (by decide) ?_
  refine rw_aload_n 10 dX11_looks_10 0 rfl ?_
  refine rw_getR 11 11 29 kc11 dX11_looks_11 ly_243 rln_243 fX11_64 rfl rf_243_29 ?_
  refine rw_bipush 14 (v := 7) dX11_looks_14 (by decide) ?_
  refine rw_aload_n 16 dX11_looks_16 0 rfl ?_
  refine rw_getI 17 11 18 kc11 dX11_looks_17 ly_243 rln_243 fX11_236 rfl ?_
  refine rw_imul 20 dX11_looks_20 ?_
  refine rw_iload_n 21 dX11_looks_21 1 rfl ?_
  refine rw_iadd 22 dX11_looks_22 ?_
  refine rn_iald 23 dX11_looks_23 ly_259 rln_259 h (fun h => ?_)
  refine rn_iastc 24 dX11_looks_24 ly_274 rln_274 (by decide) (j := 0) (by decide) h (fun μ2 h => ?_)
  refine rw_aload_n 25 dX11_looks_25 0 rfl ?_
  refine rw_getR 26 11 47 kc11 dX11_looks_26 ly_243 rln_243 fX11_110 rfl rf_243_47 ?_
  refine rw_iconst 29 (v := 1) dX11_looks_29 (by decide) ?_
  refine rw_aload_n 30 dX11_looks_30 0 rfl ?_
  refine rw_getR 31 11 28 kc11 dX11_looks_31 ly_243 rln_243 fX11_61 rfl rf_243_28 ?_
  refine rw_bipush 34 (v := 7) dX11_looks_34 (by decide) ?_
  refine rw_aload_n 36 dX11_looks_36 0 rfl ?_
  refine rw_getI 37 11 18 kc11 dX11_looks_37 ly_243 rln_243 fX11_236 rfl ?_
  refine rw_imul 40 dX11_looks_40 ?_
  refine rw_iload_n 41 dX11_looks_41 1 rfl ?_
  refine rw_iadd 42 dX11_looks_42 ?_
  refine rn_iald 43 dX11_looks_43 ly_258 rln_258 h (fun h => ?_)
  refine rn_iastc 44 dX11_looks_44 ly_274 rln_274 (by decide) (j := 1) (by decide) h (fun μ3 h => ?_)
  refine rw_aload_n 45 dX11_looks_45 0 rfl ?_
  refine rw_getR 46 11 47 kc11 dX11_looks_46 ly_243 rln_243 fX11_110 rfl rf_243_47 ?_
  refine rw_iconst 49 (v := 2) dX11_looks_49 (by decide) ?_
  refine rw_aload_n 50 dX11_looks_50 0 rfl ?_
  refine rw_iload_n 51 dX11_looks_51 1 rfl ?_
  refine rn_cVpi 52 11 [.int a1] dX11_looks_52 caX11_fromAt lX11_333 inX11_fromAt slX11_fromAt rfl ly_243 ⟨_, rfl, rfl⟩ rln_243 naX11_fromAt (Nat.le_of_ble_eq_true rfl) (Nat.le_of_ble_eq_true rfl) (by decide) (fun _ hq => wX11_fromAt a1 μ3 hq) h (fun q4 h => ?_)
  refine rn_iastc 55 dX11_looks_55 ly_274 rln_274 (by decide) (j := 2) (by decide) h (fun μ5 h => ?_)
  refine rw_aload_n 56 dX11_looks_56 0 rfl ?_
  refine rw_getR 57 11 47 kc11 dX11_looks_57 ly_243 rln_243 fX11_110 rfl rf_243_47 ?_
  refine rw_iconst 60 (v := 3) dX11_looks_60 (by decide) ?_
  refine rw_aload_n 61 dX11_looks_61 0 rfl ?_
  refine rw_getR 62 11 51 kc11 dX11_looks_62 ly_243 rln_243 fX11_119 rfl rf_243_51 ?_
  refine rw_bipush 65 (v := 7) dX11_looks_65 (by decide) ?_
  refine rw_iload_n 67 dX11_looks_67 1 rfl ?_
  refine rw_iadd 68 dX11_looks_68 ?_
  refine rn_iald 69 dX11_looks_69 ly_277 rln_277 h (fun h => ?_)
  refine rn_iastc 70 dX11_looks_70 ly_274 rln_274 (by decide) (j := 3) (by decide) h (fun μ6 h => ?_)
  refine rw_aload_n 71 dX11_looks_71 0 rfl ?_
  refine rw_getR 72 11 47 kc11 dX11_looks_72 ly_243 rln_243 fX11_110 rfl rf_243_47 ?_
  refine rw_bipush 75 (v := 7) dX11_looks_75 (by decide) ?_
  refine rw_iload_n 77 dX11_looks_77 1 rfl ?_
  refine rn_iastc 78 dX11_looks_78 ly_274 rln_274 (by decide) (j := 7) (by decide) h (fun μ7 h => ?_)
  refine rw_aload_n 79 dX11_looks_79 0 rfl ?_
  refine rw_getR 80 11 47 kc11 dX11_looks_80 ly_243 rln_243 fX11_110 rfl rf_243_47 ?_
  refine rw_bipush 83 (v := 8) dX11_looks_83 (by decide) ?_
  refine rw_iload_n 85 dX11_looks_85 3 rfl ?_
  refine rn_iastc 86 dX11_looks_86 ly_274 rln_274 (by decide) (j := 8) (by decide) h (fun μ8 h => ?_)
  exact rn_vret 87 dX11_looks_87 rfl h
def fX11_paysAt (a1 : Int32) (a2 : Int32) (a3 : Int32) (μ : Mem) : Option (Int32 × Mem) :=
  (fX11_looks a1 a2 a3 μ).bind fun q1 =>
  (fX11_lawTells 0 (q1.1 274 0) q1).bind fun q2 =>
  some (q2.1, q2.2)
set_option maxRecDepth 100000 in
theorem wX11_paysAt (a1 : Int32) (a2 : Int32) (a3 : Int32) (μ : Mem) {res : Int32 × Mem} (h : fX11_paysAt a1 a2 a3 μ = some res) : Ct mX11_paysAt 3 NF NF [.ref 243, .int a1, .int a2, .int a3] (μ, Rf0, NF) (QN (some (.int res.1)) res.2 Rf0 NF) := by
  unfold fX11_paysAt at h
  show RW mX11_paysAt 3 NF NF 0 [(0, .ref 243), (1, .int a1), (2, .int a2), (3, .int a3)] [] (μ, Rf0, NF) (QN (some (.int res.1)) res.2 Rf0 NF)
  refine rw_aload_n 0 dX11_paysAt_0 0 rfl ?_
  refine rw_iload_n 1 dX11_paysAt_1 1 rfl ?_
  refine rw_iload_n 2 dX11_paysAt_2 2 rfl ?_
  refine rw_iload_n 3 dX11_paysAt_3 3 rfl ?_
  refine rn_cVmv 4 11 [.int a1, .int a2, .int a3] dX11_paysAt_4 caX11_looks lX11_352 inX11_looks slX11_looks rfl ly_243 ⟨_, rfl, rfl⟩ rln_243 naX11_looks (Nat.le_of_ble_eq_true rfl) (Nat.le_of_ble_eq_true rfl) (by decide) (fun _ hq => wX11_looks a1 a2 a3 μ hq) h (fun q1 h => ?_)
  refine rw_aload_n 7 dX11_paysAt_7 0 rfl ?_
  refine rw_iconst 8 (v := 0) dX11_paysAt_8 (by decide) ?_
  refine rw_aload_n 9 dX11_paysAt_9 0 rfl ?_
  refine rw_getR 10 11 47 kc11 dX11_paysAt_10 ly_243 rln_243 fX11_110 rfl rf_243_47 ?_
  refine rw_iconst 13 (v := 0) dX11_paysAt_13 (by decide) ?_
  refine rn_ialdc 14 dX11_paysAt_14 ly_274 rln_274 (by decide) (j := 0) (by decide) ?_
  refine rn_cVmi 15 11 [.int 0, .int (q1.1 274 0)] dX11_paysAt_15 caX11_lawTells lX11_356 inX11_lawTells slX11_lawTells rfl ly_243 ⟨_, rfl, rfl⟩ rln_243 naX11_lawTells (Nat.le_of_ble_eq_true rfl) (Nat.le_of_ble_eq_true rfl) (by decide) (fun _ hq => wX11_lawTells 0 (q1.1 274 0) q1 hq) h (fun q2 h => ?_)
  exact rn_iret2 18 dX11_paysAt_18 rfl h
def fX11_restsAt (a1 : Int32) (a2 : Int32) (a3 : Int32) (μ : Mem) : Option (Int32 × Mem) :=
  (fX11_looks a1 a2 a3 μ).bind fun q1 =>
  (fX11_lawTells 1 (q1.1 274 1) q1).bind fun q2 =>
  some (q2.1, q2.2)
set_option maxRecDepth 100000 in
theorem wX11_restsAt (a1 : Int32) (a2 : Int32) (a3 : Int32) (μ : Mem) {res : Int32 × Mem} (h : fX11_restsAt a1 a2 a3 μ = some res) : Ct mX11_restsAt 3 NF NF [.ref 243, .int a1, .int a2, .int a3] (μ, Rf0, NF) (QN (some (.int res.1)) res.2 Rf0 NF) := by
  unfold fX11_restsAt at h
  show RW mX11_restsAt 3 NF NF 0 [(0, .ref 243), (1, .int a1), (2, .int a2), (3, .int a3)] [] (μ, Rf0, NF) (QN (some (.int res.1)) res.2 Rf0 NF)
  refine rw_aload_n 0 dX11_restsAt_0 0 rfl ?_
  refine rw_iload_n 1 dX11_restsAt_1 1 rfl ?_
  refine rw_iload_n 2 dX11_restsAt_2 2 rfl ?_
  refine rw_iload_n 3 dX11_restsAt_3 3 rfl ?_
  refine rn_cVmv 4 11 [.int a1, .int a2, .int a3] dX11_restsAt_4 caX11_looks lX11_352 inX11_looks slX11_looks rfl ly_243 ⟨_, rfl, rfl⟩ rln_243 naX11_looks (Nat.le_of_ble_eq_true rfl) (Nat.le_of_ble_eq_true rfl) (by decide) (fun _ hq => wX11_looks a1 a2 a3 μ hq) h (fun q1 h => ?_)
  refine rw_aload_n 7 dX11_restsAt_7 0 rfl ?_
  refine rw_iconst 8 (v := 1) dX11_restsAt_8 (by decide) ?_
  refine rw_aload_n 9 dX11_restsAt_9 0 rfl ?_
  refine rw_getR 10 11 47 kc11 dX11_restsAt_10 ly_243 rln_243 fX11_110 rfl rf_243_47 ?_
  refine rw_iconst 13 (v := 1) dX11_restsAt_13 (by decide) ?_
  refine rn_ialdc 14 dX11_restsAt_14 ly_274 rln_274 (by decide) (j := 1) (by decide) ?_
  refine rn_cVmi 15 11 [.int 1, .int (q1.1 274 1)] dX11_restsAt_15 caX11_lawTells lX11_356 inX11_lawTells slX11_lawTells rfl ly_243 ⟨_, rfl, rfl⟩ rln_243 naX11_lawTells (Nat.le_of_ble_eq_true rfl) (Nat.le_of_ble_eq_true rfl) (by decide) (fun _ hq => wX11_lawTells 1 (q1.1 274 1) q1 hq) h (fun q2 h => ?_)
  exact rn_iret2 18 dX11_restsAt_18 rfl h
def fX11_looksAll (a1 : Int32) (μ : Mem) : Option (Mem) :=
  (fX11_looksAt a1 μ).bind fun q1 =>
  nm (wI q1 274 0 0) fun μ2 =>
  (fX11_hoursTaken a1 μ2).bind fun q3 =>
  nm (wI μ2 274 1 q3) fun μ4 =>
  nm (wI μ4 274 2 0) fun μ5 =>
  nm (wI μ5 274 3 0) fun μ6 =>
  nm (wI μ6 274 7 a1) fun μ7 =>
  (fX11_guestBits a1 μ7).bind fun q8 =>
  (fX11_bits q8 μ7).bind fun q9 =>
  nm (wI μ7 274 8 q9) fun μ10 =>
  some μ10
set_option maxRecDepth 100000 in
theorem wX11_looksAll (a1 : Int32) (μ : Mem) {res : Mem} (h : fX11_looksAll a1 μ = some res) : Ct mX11_looksAll 2 NF NF [.ref 243, .int a1] (μ, Rf0, NF) (QN none res Rf0 NF) := by
  unfold fX11_looksAll at h
  show RW mX11_looksAll 2 NF NF 0 [(0, .ref 243), (1, .int a1)] [] (μ, Rf0, NF) (QN none res Rf0 NF)
  refine rw_aload_n 0 dX11_looksAll_0 0 rfl ?_
  refine rw_iload_n 1 dX11_looksAll_1 1 rfl ?_
  refine rn_cVmv 2 11 [.int a1] dX11_looksAll_2 caX11_looksAt lX11_349 inX11_looksAt slX11_looksAt rfl ly_243 ⟨_, rfl, rfl⟩ rln_243 naX11_looksAt (Nat.le_of_ble_eq_true rfl) (Nat.le_of_ble_eq_true rfl) (by decide) (fun _ hq => wX11_looksAt a1 μ hq) h (fun q1 h => ?_)
  refine rw_aload_n 5 dX11_looksAll_5 0 rfl ?_
  refine rw_getR 6 11 47 kc11 dX11_looksAll_6 ly_243 rln_243 fX11_110 rfl rf_243_47 ?_
  refine rw_iconst 9 (v := 0) dX11_looksAll_9 (by decide) ?_
  refine rw_iconst 10 (v := 0) dX11_looksAll_10 (by decide) ?_
  refine rn_iastc 11 dX11_looksAll_11 ly_274 rln_274 (by decide) (j := 0) (by decide) h (fun μ2 h => ?_)
  refine rw_aload_n 12 dX11_looksAll_12 0 rfl ?_
  refine rw_getR 13 11 47 kc11 dX11_looksAll_13 ly_243 rln_243 fX11_110 rfl rf_243_47 ?_
  refine rw_iconst 16 (v := 1) dX11_looksAll_16 (by decide) ?_
  refine rw_aload_n 17 dX11_looksAll_17 0 rfl ?_
  refine rw_iload_n 18 dX11_looksAll_18 1 rfl ?_
  refine rn_cVpi 19 11 [.int a1] dX11_looksAll_19 caX11_hoursTaken lX11_359 inX11_hoursTaken slX11_hoursTaken rfl ly_243 ⟨_, rfl, rfl⟩ rln_243 naX11_hoursTaken (Nat.le_of_ble_eq_true rfl) (Nat.le_of_ble_eq_true rfl) (by decide) (fun _ hq => wX11_hoursTaken a1 μ2 hq) h (fun q3 h => ?_)
  refine rn_iastc 22 dX11_looksAll_22 ly_274 rln_274 (by decide) (j := 1) (by decide) h (fun μ4 h => ?_)
  refine rw_aload_n 23 dX11_looksAll_23 0 rfl ?_
  refine rw_getR 24 11 47 kc11 dX11_looksAll_24 ly_243 rln_243 fX11_110 rfl rf_243_47 ?_
  refine rw_iconst 27 (v := 2) dX11_looksAll_27 (by decide) ?_
  refine rw_iconst 28 (v := 0) dX11_looksAll_28 (by decide) ?_
  refine rn_iastc 29 dX11_looksAll_29 ly_274 rln_274 (by decide) (j := 2) (by decide) h (fun μ5 h => ?_)
  refine rw_aload_n 30 dX11_looksAll_30 0 rfl ?_
  refine rw_getR 31 11 47 kc11 dX11_looksAll_31 ly_243 rln_243 fX11_110 rfl rf_243_47 ?_
  refine rw_iconst 34 (v := 3) dX11_looksAll_34 (by decide) ?_
  refine rw_iconst 35 (v := 0) dX11_looksAll_35 (by decide) ?_
  refine rn_iastc 36 dX11_looksAll_36 ly_274 rln_274 (by decide) (j := 3) (by decide) h (fun μ6 h => ?_)
  refine rw_aload_n 37 dX11_looksAll_37 0 rfl ?_
  refine rw_getR 38 11 47 kc11 dX11_looksAll_38 ly_243 rln_243 fX11_110 rfl rf_243_47 ?_
  refine rw_bipush 41 (v := 7) dX11_looksAll_41 (by decide) ?_
  refine rw_iload_n 43 dX11_looksAll_43 1 rfl ?_
  refine rn_iastc 44 dX11_looksAll_44 ly_274 rln_274 (by decide) (j := 7) (by decide) h (fun μ7 h => ?_)
  refine rw_aload_n 45 dX11_looksAll_45 0 rfl ?_
  refine rw_getR 46 11 47 kc11 dX11_looksAll_46 ly_243 rln_243 fX11_110 rfl rf_243_47 ?_
  refine rw_bipush 49 (v := 8) dX11_looksAll_49 (by decide) ?_
  refine rw_aload_n 51 dX11_looksAll_51 0 rfl ?_
  refine rw_iload_n 52 dX11_looksAll_52 1 rfl ?_
  refine rn_cVpi 53 11 [.int a1] dX11_looksAll_53 caX11_guestBits lX11_362 inX11_guestBits slX11_guestBits rfl ly_243 ⟨_, rfl, rfl⟩ rln_243 naX11_guestBits (Nat.le_of_ble_eq_true rfl) (Nat.le_of_ble_eq_true rfl) (by decide) (fun _ hq => wX11_guestBits a1 μ7 hq) h (fun q8 h => ?_)
  refine rn_cSpi 56 [.int q8] dX11_looksAll_56 caX11_bits lX11_365 stX11_bits rfl naX11_bits (Nat.le_of_ble_eq_true rfl) (Nat.le_of_ble_eq_true rfl) (by decide) (fun _ hq => wX11_bits q8 μ7 hq) h (fun q9 h => ?_)
  refine rn_iastc 59 dX11_looksAll_59 ly_274 rln_274 (by decide) (j := 8) (by decide) h (fun μ10 h => ?_)
  exact rn_vret 60 dX11_looksAll_60 rfl h
def fX11_wearsOf (a1 : Int32) (μ : Mem) : Option (Int32 × Mem) :=
  (fX11_guestBits a1 μ).bind fun q1 =>
  if q1 = 0 then
    some (0, μ)
  else
    (fX11_looksAll a1 μ).bind fun q2 =>
    (fX11_lawTells 2 1 q2).bind fun q3 =>
    some (q3.1, q3.2)
set_option maxRecDepth 100000 in
theorem wX11_wearsOf (a1 : Int32) (μ : Mem) {res : Int32 × Mem} (h : fX11_wearsOf a1 μ = some res) : Ct mX11_wearsOf 3 NF NF [.ref 243, .int a1] (μ, Rf0, NF) (QN (some (.int res.1)) res.2 Rf0 NF) := by
  unfold fX11_wearsOf at h
  show RW mX11_wearsOf 3 NF NF 0 [(0, .ref 243), (1, .int a1)] [] (μ, Rf0, NF) (QN (some (.int res.1)) res.2 Rf0 NF)
  refine rw_aload_n 0 dX11_wearsOf_0 0 rfl ?_
  refine rw_iload_n 1 dX11_wearsOf_1 1 rfl ?_
  refine rn_cVpi 2 11 [.int a1] dX11_wearsOf_2 caX11_guestBits lX11_362 inX11_guestBits slX11_guestBits rfl ly_243 ⟨_, rfl, rfl⟩ rln_243 naX11_guestBits (Nat.le_of_ble_eq_true rfl) (Nat.le_of_ble_eq_true rfl) (by decide) (fun _ hq => wX11_guestBits a1 μ hq) h (fun q1 h => ?_)
  refine rn_if_ne 5 10 dX11_wearsOf_5 (by decide) h (fun _ h => ?_) (fun _ h => ?_)
  · refine rw_aload_n 10 dX11_wearsOf_10 0 rfl ?_
    refine rw_iload_n 11 dX11_wearsOf_11 1 rfl ?_
    refine rn_cVmv 12 11 [.int a1] dX11_wearsOf_12 caX11_looksAll lX11_368 inX11_looksAll slX11_looksAll rfl ly_243 ⟨_, rfl, rfl⟩ rln_243 naX11_looksAll (Nat.le_of_ble_eq_true rfl) (Nat.le_of_ble_eq_true rfl) (by decide) (fun _ hq => wX11_looksAll a1 μ hq) h (fun q2 h => ?_)
    refine rw_aload_n 15 dX11_wearsOf_15 0 rfl ?_
    refine rw_iconst 16 (v := 2) dX11_wearsOf_16 (by decide) ?_
    refine rw_iconst 17 (v := 1) dX11_wearsOf_17 (by decide) ?_
    refine rn_cVmi 18 11 [.int 2, .int 1] dX11_wearsOf_18 caX11_lawTells lX11_356 inX11_lawTells slX11_lawTells rfl ly_243 ⟨_, rfl, rfl⟩ rln_243 naX11_lawTells (Nat.le_of_ble_eq_true rfl) (Nat.le_of_ble_eq_true rfl) (by decide) (fun _ hq => wX11_lawTells 2 1 q2 hq) h (fun q3 h => ?_)
    exact rn_iret2 21 dX11_wearsOf_21 rfl h
  · refine rw_iconst 8 (v := 0) dX11_wearsOf_8 (by decide) ?_
    exact rn_iret2 9 dX11_wearsOf_9 rfl h
def fX11_sellsOf (a1 : Int32) (μ : Mem) : Option (Int32 × Mem) :=
  (fX11_looksAll a1 μ).bind fun q1 =>
  (fX11_lawTells 3 (q1.1 274 5) q1).bind fun q2 =>
  some (q2.1, q2.2)
set_option maxRecDepth 100000 in
theorem wX11_sellsOf (a1 : Int32) (μ : Mem) {res : Int32 × Mem} (h : fX11_sellsOf a1 μ = some res) : Ct mX11_sellsOf 3 NF NF [.ref 243, .int a1] (μ, Rf0, NF) (QN (some (.int res.1)) res.2 Rf0 NF) := by
  unfold fX11_sellsOf at h
  show RW mX11_sellsOf 3 NF NF 0 [(0, .ref 243), (1, .int a1)] [] (μ, Rf0, NF) (QN (some (.int res.1)) res.2 Rf0 NF)
  refine rw_aload_n 0 dX11_sellsOf_0 0 rfl ?_
  refine rw_iload_n 1 dX11_sellsOf_1 1 rfl ?_
  refine rn_cVmv 2 11 [.int a1] dX11_sellsOf_2 caX11_looksAll lX11_368 inX11_looksAll slX11_looksAll rfl ly_243 ⟨_, rfl, rfl⟩ rln_243 naX11_looksAll (Nat.le_of_ble_eq_true rfl) (Nat.le_of_ble_eq_true rfl) (by decide) (fun _ hq => wX11_looksAll a1 μ hq) h (fun q1 h => ?_)
  refine rw_aload_n 5 dX11_sellsOf_5 0 rfl ?_
  refine rw_iconst 6 (v := 3) dX11_sellsOf_6 (by decide) ?_
  refine rw_aload_n 7 dX11_sellsOf_7 0 rfl ?_
  refine rw_getR 8 11 47 kc11 dX11_sellsOf_8 ly_243 rln_243 fX11_110 rfl rf_243_47 ?_
  refine rw_iconst 11 (v := 5) dX11_sellsOf_11 (by decide) ?_
  refine rn_ialdc 12 dX11_sellsOf_12 ly_274 rln_274 (by decide) (j := 5) (by decide) ?_
  refine rn_cVmi 13 11 [.int 3, .int (q1.1 274 5)] dX11_sellsOf_13 caX11_lawTells lX11_356 inX11_lawTells slX11_lawTells rfl ly_243 ⟨_, rfl, rfl⟩ rln_243 naX11_lawTells (Nat.le_of_ble_eq_true rfl) (Nat.le_of_ble_eq_true rfl) (by decide) (fun _ hq => wX11_lawTells 3 (q1.1 274 5) q1 hq) h (fun q2 h => ?_)
  exact rn_iret2 16 dX11_sellsOf_16 rfl h
def fX11_othersOf (a1 : Int32) (μ : Mem) : Option (Int32) :=
  if inb a1 31 then
  (fX11_guestBits (μ.1 277 a1.toNatClampNeg) μ).bind fun q1 =>
  (fX11_bits q1 μ).bind fun q2 =>
  some (q2 - 1)
  else none
set_option maxRecDepth 100000 in
theorem wX11_othersOf (a1 : Int32) (μ : Mem) {res : Int32} (h : fX11_othersOf a1 μ = some res) : Ct mX11_othersOf 2 NF NF [.ref 243, .int a1] (μ, Rf0, NF) (QN (some (.int res)) μ Rf0 NF) := by
  unfold fX11_othersOf at h
  show RW mX11_othersOf 2 NF NF 0 [(0, .ref 243), (1, .int a1)] [] (μ, Rf0, NF) (QN (some (.int res)) μ Rf0 NF)
  refine rw_aload_n 0 dX11_othersOf_0 0 rfl ?_
  refine rw_aload_n 1 dX11_othersOf_1 0 rfl ?_
  refine rw_getR 2 11 51 kc11 dX11_othersOf_2 ly_243 rln_243 fX11_119 rfl rf_243_51 ?_
  refine rw_iload_n 5 dX11_othersOf_5 1 rfl ?_
  refine rn_iald 6 dX11_othersOf_6 ly_277 rln_277 h (fun h => ?_)
  refine rn_cVpi 7 11 [.int (μ.1 277 a1.toNatClampNeg)] dX11_othersOf_7 caX11_guestBits lX11_362 inX11_guestBits slX11_guestBits rfl ly_243 ⟨_, rfl, rfl⟩ rln_243 naX11_guestBits (Nat.le_of_ble_eq_true rfl) (Nat.le_of_ble_eq_true rfl) (by decide) (fun _ hq => wX11_guestBits (μ.1 277 a1.toNatClampNeg) μ hq) h (fun q1 h => ?_)
  refine rn_cSpi 10 [.int q1] dX11_othersOf_10 caX11_bits lX11_365 stX11_bits rfl naX11_bits (Nat.le_of_ble_eq_true rfl) (Nat.le_of_ble_eq_true rfl) (by decide) (fun _ hq => wX11_bits q1 μ hq) h (fun q2 h => ?_)
  refine rw_iconst 13 (v := 1) dX11_othersOf_13 (by decide) ?_
  refine rw_isub 14 dX11_othersOf_14 ?_
  exact rn_iret 15 dX11_othersOf_15 rfl h
def fX11_paysOf (a1 : Int32) (μ : Mem) : Option (Int32 × Mem) :=
  if inb a1 31 then
  if (μ.1 277 a1.toNatClampNeg) < 0 then
    some (0, μ)
  else
    if inb a1 31 then
    (fX11_othersOf a1 μ).bind fun q1 =>
    (fX11_paysAt a1 (μ.1 277 a1.toNatClampNeg) q1 μ).bind fun q2 =>
    some (q2.1, q2.2)
    else none
  else none
set_option maxRecDepth 100000 in
theorem wX11_paysOf (a1 : Int32) (μ : Mem) {res : Int32 × Mem} (h : fX11_paysOf a1 μ = some res) : Ct mX11_paysOf 4 NF NF [.ref 243, .int a1] (μ, Rf0, NF) (QN (some (.int res.1)) res.2 Rf0 NF) := by
  unfold fX11_paysOf at h
  show RW mX11_paysOf 4 NF NF 0 [(0, .ref 243), (1, .int a1)] [] (μ, Rf0, NF) (QN (some (.int res.1)) res.2 Rf0 NF)
  refine rw_aload_n 0 dX11_paysOf_0 0 rfl ?_
  refine rw_getR 1 11 51 kc11 dX11_paysOf_1 ly_243 rln_243 fX11_119 rfl rf_243_51 ?_
  refine rw_iload_n 4 dX11_paysOf_4 1 rfl ?_
  refine rn_iald 5 dX11_paysOf_5 ly_277 rln_277 h (fun h => ?_)
  refine rn_if_ge 6 13 dX11_paysOf_6 (by decide) h (fun _ h => ?_) (fun _ h => ?_)
  · refine rw_aload_n 13 dX11_paysOf_13 0 rfl ?_
    refine rw_iload_n 14 dX11_paysOf_14 1 rfl ?_
    refine rw_aload_n 15 dX11_paysOf_15 0 rfl ?_
    refine rw_getR 16 11 51 kc11 dX11_paysOf_16 ly_243 rln_243 fX11_119 rfl rf_243_51 ?_
    refine rw_iload_n 19 dX11_paysOf_19 1 rfl ?_
    refine rn_iald 20 dX11_paysOf_20 ly_277 rln_277 h (fun h => ?_)
    refine rw_aload_n 21 dX11_paysOf_21 0 rfl ?_
    refine rw_iload_n 22 dX11_paysOf_22 1 rfl ?_
    refine rn_cVpi 23 11 [.int a1] dX11_paysOf_23 caX11_othersOf lX11_371 inX11_othersOf slX11_othersOf rfl ly_243 ⟨_, rfl, rfl⟩ rln_243 naX11_othersOf (Nat.le_of_ble_eq_true rfl) (Nat.le_of_ble_eq_true rfl) (by decide) (fun _ hq => wX11_othersOf a1 μ hq) h (fun q1 h => ?_)
    refine rn_cVmi 26 11 [.int a1, .int (μ.1 277 a1.toNatClampNeg), .int q1] dX11_paysOf_26 caX11_paysAt lX11_374 inX11_paysAt slX11_paysAt rfl ly_243 ⟨_, rfl, rfl⟩ rln_243 naX11_paysAt (Nat.le_of_ble_eq_true rfl) (Nat.le_of_ble_eq_true rfl) (by decide) (fun _ hq => wX11_paysAt a1 (μ.1 277 a1.toNatClampNeg) q1 μ hq) h (fun q2 h => ?_)
    exact rn_iret2 29 dX11_paysOf_29 rfl h
  · refine rw_iconst 9 (v := 0) dX11_paysOf_9 (by decide) ?_
    refine rw_goto 10 29 dX11_paysOf_10 (by decide) ?_
    exact rn_iret2 29 dX11_paysOf_29 rfl h
def fX11_restsOf (a1 : Int32) (μ : Mem) : Option (Int32 × Mem) :=
  if inb a1 31 then
  if (μ.1 277 a1.toNatClampNeg) < 0 then
    some (0, μ)
  else
    if inb a1 31 then
    (fX11_othersOf a1 μ).bind fun q1 =>
    (fX11_restsAt a1 (μ.1 277 a1.toNatClampNeg) q1 μ).bind fun q2 =>
    some (q2.1, q2.2)
    else none
  else none
set_option maxRecDepth 100000 in
theorem wX11_restsOf (a1 : Int32) (μ : Mem) {res : Int32 × Mem} (h : fX11_restsOf a1 μ = some res) : Ct mX11_restsOf 4 NF NF [.ref 243, .int a1] (μ, Rf0, NF) (QN (some (.int res.1)) res.2 Rf0 NF) := by
  unfold fX11_restsOf at h
  show RW mX11_restsOf 4 NF NF 0 [(0, .ref 243), (1, .int a1)] [] (μ, Rf0, NF) (QN (some (.int res.1)) res.2 Rf0 NF)
  refine rw_aload_n 0 dX11_restsOf_0 0 rfl ?_
  refine rw_getR 1 11 51 kc11 dX11_restsOf_1 ly_243 rln_243 fX11_119 rfl rf_243_51 ?_
  refine rw_iload_n 4 dX11_restsOf_4 1 rfl ?_
  refine rn_iald 5 dX11_restsOf_5 ly_277 rln_277 h (fun h => ?_)
  refine rn_if_ge 6 13 dX11_restsOf_6 (by decide) h (fun _ h => ?_) (fun _ h => ?_)
  · refine rw_aload_n 13 dX11_restsOf_13 0 rfl ?_
    refine rw_iload_n 14 dX11_restsOf_14 1 rfl ?_
    refine rw_aload_n 15 dX11_restsOf_15 0 rfl ?_
    refine rw_getR 16 11 51 kc11 dX11_restsOf_16 ly_243 rln_243 fX11_119 rfl rf_243_51 ?_
    refine rw_iload_n 19 dX11_restsOf_19 1 rfl ?_
    refine rn_iald 20 dX11_restsOf_20 ly_277 rln_277 h (fun h => ?_)
    refine rw_aload_n 21 dX11_restsOf_21 0 rfl ?_
    refine rw_iload_n 22 dX11_restsOf_22 1 rfl ?_
    refine rn_cVpi 23 11 [.int a1] dX11_restsOf_23 caX11_othersOf lX11_371 inX11_othersOf slX11_othersOf rfl ly_243 ⟨_, rfl, rfl⟩ rln_243 naX11_othersOf (Nat.le_of_ble_eq_true rfl) (Nat.le_of_ble_eq_true rfl) (by decide) (fun _ hq => wX11_othersOf a1 μ hq) h (fun q1 h => ?_)
    refine rn_cVmi 26 11 [.int a1, .int (μ.1 277 a1.toNatClampNeg), .int q1] dX11_restsOf_26 caX11_restsAt lX11_377 inX11_restsAt slX11_restsAt rfl ly_243 ⟨_, rfl, rfl⟩ rln_243 naX11_restsAt (Nat.le_of_ble_eq_true rfl) (Nat.le_of_ble_eq_true rfl) (by decide) (fun _ hq => wX11_restsAt a1 (μ.1 277 a1.toNatClampNeg) q1 μ hq) h (fun q2 h => ?_)
    exact rn_iret2 29 dX11_restsOf_29 rfl h
  · refine rw_iconst 9 (v := 0) dX11_restsOf_9 (by decide) ?_
    refine rw_goto 10 29 dX11_restsOf_10 (by decide) ?_
    exact rn_iret2 29 dX11_restsOf_29 rfl h
def fX11_dueAll_4     (K : Int32 → Mem → Option (Int32 × Mem)) : Nat → Int32 → Int32 → Mem → Option (Int32 × Mem)
  | 0, _, _, _ => none
  | n + 1, v1, v2, μ =>
    if inb (μ.1 243 18) 2 then
    if v2 < (μ.1 256 (μ.1 243 18).toNatClampNeg) then
      (fX11_paysOf v2 μ).bind fun q1 =>
      fX11_dueAll_4 K n (v1 + q1.1) (v2 + 1) q1.2
    else
      K v1 μ
    else none
def fX11_dueAll  (μ : Mem) : Option (Int32 × Mem) :=
  fX11_dueAll_4  (fun y2 μ3 =>
      some (y2, μ3)
  ) FU 0 0 μ
set_option maxRecDepth 100000 in
theorem wX11_dueAll_4     (K : Int32 → Mem → Option (Int32 × Mem)) {res : Int32 × Mem} (hK : ∀ (v1 : Int32) (μ : Mem), K v1 μ = some res → RW mX11_dueAll 5 NF NF 31 [(1, .int v1)] [] (μ, Rf0, NF) (QN (some (.int res.1)) res.2 Rf0 NF)) : ∀ (n9 : Nat) (v1 : Int32) (v2 : Int32) (μ : Mem), fX11_dueAll_4 K n9 v1 v2 μ = some res → RW mX11_dueAll 5 NF NF 4 [(0, .ref 243), (1, .int v1), (2, .int v2)] [] (μ, Rf0, NF) (QN (some (.int res.1)) res.2 Rf0 NF) := by
  intro n9
  induction n9 with
  | zero => intro _ _ _ h; cases h
  | succ n ih =>
    intro v1 v2 μ h
    unfold fX11_dueAll_4 at h
    refine rw_iload_n 4 dX11_dueAll_4 2 rfl ?_
    refine rw_aload_n 5 dX11_dueAll_5 0 rfl ?_
    refine rw_getR 6 11 26 kc11 dX11_dueAll_6 ly_243 rln_243 fX11_55 rfl rf_243_26 ?_
    refine rw_aload_n 9 dX11_dueAll_9 0 rfl ?_
    refine rw_getI 10 11 18 kc11 dX11_dueAll_10 ly_243 rln_243 fX11_236 rfl ?_
    refine rn_iald 13 dX11_dueAll_13 ly_256 rln_256 h (fun h => ?_)
    refine rn_icmp_ge 14 31 dX11_dueAll_14 (by decide) h (fun _ h => ?_) (fun _ h => ?_)
    · refine rw_pick 31 [1] rfl ?_
      exact hK v1 μ h
    · refine rw_iload_n 17 dX11_dueAll_17 1 rfl ?_
      refine rw_aload_n 18 dX11_dueAll_18 0 rfl ?_
      refine rw_iload_n 19 dX11_dueAll_19 2 rfl ?_
      refine rn_cVmi 20 11 [.int v2] dX11_dueAll_20 caX11_paysOf lX11_380 inX11_paysOf slX11_paysOf rfl ly_243 ⟨_, rfl, rfl⟩ rln_243 naX11_paysOf (Nat.le_of_ble_eq_true rfl) (Nat.le_of_ble_eq_true rfl) (by decide) (fun _ hq => wX11_paysOf v2 μ hq) h (fun q1 h => ?_)
      refine rw_iadd 23 dX11_dueAll_23 ?_
      refine rw_istore_n 24 [(0, .ref 243), (1, .int (v1 + q1.1)), (2, .int v2)] dX11_dueAll_24 (by decide) rfl ?_
      refine rw_iinc 25 [(0, .ref 243), (1, .int (v1 + q1.1)), (2, .int (v2 + 1))] dX11_dueAll_25 2 rfl rfl (by decide) rfl ?_
      refine rw_goto 28 4 dX11_dueAll_28 (by decide) ?_
      exact ih (v1 + q1.1) (v2 + 1) q1.2 h
set_option maxRecDepth 100000 in
theorem wX11_dueAll  (μ : Mem) {res : Int32 × Mem} (h : fX11_dueAll  μ = some res) : Ct mX11_dueAll 5 NF NF [.ref 243] (μ, Rf0, NF) (QN (some (.int res.1)) res.2 Rf0 NF) := by
  unfold fX11_dueAll at h
  show RW mX11_dueAll 5 NF NF 0 [(0, .ref 243)] [] (μ, Rf0, NF) (QN (some (.int res.1)) res.2 Rf0 NF)
  refine rw_iconst 0 (v := 0) dX11_dueAll_0 (by decide) ?_
  refine rw_istore_n 1 [(0, .ref 243), (1, .int 0)] dX11_dueAll_1 (by decide) rfl ?_
  refine rw_iconst 2 (v := 0) dX11_dueAll_2 (by decide) ?_
  refine rw_istore_n 3 [(0, .ref 243), (1, .int 0), (2, .int 0)] dX11_dueAll_3 (by decide) rfl ?_
  refine wX11_dueAll_4 _ (fun y2 μ3 h => ?_) FU 0 0 μ h
  refine rw_iload_n 31 dX11_dueAll_31 0 rfl ?_
  exact rn_iret2 32 dX11_dueAll_32 rfl h
def fX11_restsIn (a1 : Int32) (μ : Mem) : Option (Mem) :=
  if inb a1 31 then
  if (μ.1 277 a1.toNatClampNeg) < 0 then
    if inb (14 + a1) 31 then
    if (μ.1 277 (14 + a1).toNatClampNeg) = 0 then
      if inb (7 + a1) 31 then
      (fX11_within ((μ.1 277 (7 + a1).toNatClampNeg) - 1) 0 999 μ).bind fun q1 =>
      if inb (7 + a1) 31 then nm (wI μ 277 (7 + a1).toNatClampNeg q1) fun μ2 =>
      some μ2
      else none
      else none
    else
      some μ
    else none
  else
    if inb (7 + a1) 31 then
    if inb a1 7 then
    (fX11_within ((μ.1 277 (7 + a1).toNatClampNeg) + (μ.1 278 a1.toNatClampNeg)) 0 999 μ).bind fun q3 =>
    if inb (7 + a1) 31 then nm (wI μ 277 (7 + a1).toNatClampNeg q3) fun μ4 =>
    some μ4
    else none
    else none
    else none
  else none
set_option maxRecDepth 100000 in
theorem wX11_restsIn (a1 : Int32) (μ : Mem) {res : Mem} (h : fX11_restsIn a1 μ = some res) : Ct mX11_restsIn 2 NF NF [.ref 243, .int a1] (μ, Rf0, NF) (QN none res Rf0 NF) := by
  unfold fX11_restsIn at h
  show RW mX11_restsIn 2 NF NF 0 [(0, .ref 243), (1, .int a1)] [] (μ, Rf0, NF) (QN none res Rf0 NF)
  refine rw_aload_n 0 dX11_restsIn_0 0 rfl ?_
  refine rw_getR 1 11 51 kc11 dX11_restsIn_1 ly_243 rln_243 fX11_119 rfl rf_243_51 ?_
  refine rw_iload_n 4 dX11_restsIn_4 1 rfl ?_
  refine rn_iald 5 dX11_restsIn_5 ly_277 rln_277 h (fun h => ?_)
  refine rn_if_lt 6 44 dX11_restsIn_6 (by decide) h (fun _ h => ?_) (fun _ h => ?_)
  · refine rw_aload_n 44 dX11_restsIn_44 0 rfl ?_
    refine rw_getR 45 11 51 kc11 dX11_restsIn_45 ly_243 rln_243 fX11_119 rfl rf_243_51 ?_
    refine rw_bipush 48 (v := 14) dX11_restsIn_48 (by decide) ?_
    refine rw_iload_n 50 dX11_restsIn_50 1 rfl ?_
    refine rw_iadd 51 dX11_restsIn_51 ?_
    refine rn_iald 52 dX11_restsIn_52 ly_277 rln_277 h (fun h => ?_)
    refine rn_if_ne 53 83 dX11_restsIn_53 (by decide) h (fun _ h => ?_) (fun _ h => ?_)
    · exact rn_vret 83 dX11_restsIn_83 rfl h
    · refine rw_aload_n 56 dX11_restsIn_56 0 rfl ?_
      refine rw_getR 57 11 51 kc11 dX11_restsIn_57 ly_243 rln_243 fX11_119 rfl rf_243_51 ?_
      refine rw_bipush 60 (v := 7) dX11_restsIn_60 (by decide) ?_
      refine rw_iload_n 62 dX11_restsIn_62 1 rfl ?_
      refine rw_iadd 63 dX11_restsIn_63 ?_
      refine rw_aload_n 64 dX11_restsIn_64 0 rfl ?_
      refine rw_getR 65 11 51 kc11 dX11_restsIn_65 ly_243 rln_243 fX11_119 rfl rf_243_51 ?_
      refine rw_bipush 68 (v := 7) dX11_restsIn_68 (by decide) ?_
      refine rw_iload_n 70 dX11_restsIn_70 1 rfl ?_
      refine rw_iadd 71 dX11_restsIn_71 ?_
      refine rn_iald 72 dX11_restsIn_72 ly_277 rln_277 h (fun h => ?_)
      refine rw_iconst 73 (v := 1) dX11_restsIn_73 (by decide) ?_
      refine rw_isub 74 dX11_restsIn_74 ?_
      refine rw_iconst 75 (v := 0) dX11_restsIn_75 (by decide) ?_
      refine rw_sipush 76 (v := 999) dX11_restsIn_76 (by decide) ?_
      refine rn_cSpi 79 [.int ((μ.1 277 (7 + a1).toNatClampNeg) - 1), .int 0, .int 999] dX11_restsIn_79 caX11_within lX11_343 stX11_within rfl naX11_within (Nat.le_of_ble_eq_true rfl) (Nat.le_of_ble_eq_true rfl) (by decide) (fun _ hq => wX11_within ((μ.1 277 (7 + a1).toNatClampNeg) - 1) 0 999 μ hq) h (fun q1 h => ?_)
      refine rn_iast 82 dX11_restsIn_82 ly_277 rln_277 h (fun μ2 h => ?_)
      exact rn_vret 83 dX11_restsIn_83 rfl h
  · refine rw_aload_n 9 dX11_restsIn_9 0 rfl ?_
    refine rw_getR 10 11 51 kc11 dX11_restsIn_10 ly_243 rln_243 fX11_119 rfl rf_243_51 ?_
    refine rw_bipush 13 (v := 7) dX11_restsIn_13 (by decide) ?_
    refine rw_iload_n 15 dX11_restsIn_15 1 rfl ?_
    refine rw_iadd 16 dX11_restsIn_16 ?_
    refine rw_aload_n 17 dX11_restsIn_17 0 rfl ?_
    refine rw_getR 18 11 51 kc11 dX11_restsIn_18 ly_243 rln_243 fX11_119 rfl rf_243_51 ?_
    refine rw_bipush 21 (v := 7) dX11_restsIn_21 (by decide) ?_
    refine rw_iload_n 23 dX11_restsIn_23 1 rfl ?_
    refine rw_iadd 24 dX11_restsIn_24 ?_
    refine rn_iald 25 dX11_restsIn_25 ly_277 rln_277 h (fun h => ?_)
    refine rw_aload_n 26 dX11_restsIn_26 0 rfl ?_
    refine rw_getR 27 11 54 kc11 dX11_restsIn_27 ly_243 rln_243 fX11_122 rfl rf_243_54 ?_
    refine rw_iload_n 30 dX11_restsIn_30 1 rfl ?_
    refine rn_iald 31 dX11_restsIn_31 ly_278 rln_278 h (fun h => ?_)
    refine rw_iadd 32 dX11_restsIn_32 ?_
    refine rw_iconst 33 (v := 0) dX11_restsIn_33 (by decide) ?_
    refine rw_sipush 34 (v := 999) dX11_restsIn_34 (by decide) ?_
    refine rn_cSpi 37 [.int ((μ.1 277 (7 + a1).toNatClampNeg) + (μ.1 278 a1.toNatClampNeg)), .int 0, .int 999] dX11_restsIn_37 caX11_within lX11_343 stX11_within rfl naX11_within (Nat.le_of_ble_eq_true rfl) (Nat.le_of_ble_eq_true rfl) (by decide) (fun _ hq => wX11_within ((μ.1 277 (7 + a1).toNatClampNeg) + (μ.1 278 a1.toNatClampNeg)) 0 999 μ hq) h (fun q3 h => ?_)
    refine rn_iast 40 dX11_restsIn_40 ly_277 rln_277 h (fun μ4 h => ?_)
    refine rw_goto 41 83 dX11_restsIn_41 (by decide) ?_
    exact rn_vret 83 dX11_restsIn_83 rfl h
