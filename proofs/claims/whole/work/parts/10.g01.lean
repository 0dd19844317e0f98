def fJ6_bitCount_0f7a4 (a0 : Int32) (μ : Mem) : Option (Int32) :=
  nm (a0 - ((ush a0 1) &&& 1431655765)) fun x1 =>
  nm ((x1 &&& 858993459) + ((ush x1 2) &&& 858993459)) fun x2 =>
  nm ((x2 + (ush x2 4)) &&& 252645135) fun x3 =>
  nm (x3 + (ush x3 8)) fun x4 =>
  nm (x4 + (ush x4 16)) fun x5 =>
  some (x5 &&& 63)
set_option maxRecDepth 100000 in
theorem wJ6_bitCount_0f7a4 {Rf : Nat → Nat → Option Nat} {nn : Nat} (a0 : Int32) (μ : Mem) {res : Int32} (h : fJ6_bitCount_0f7a4 a0 μ = some res) : Ct mJ6_bitCount_0f7a4 1 nn nn [.int a0] (μ, Rf, nn) (QN (some (.int res)) μ Rf nn) := by
  unfold fJ6_bitCount_0f7a4 at h
  show RW mJ6_bitCount_0f7a4 1 nn nn 0 [(0, .int a0)] [] (μ, Rf, nn) (QN (some (.int res)) μ Rf nn)
  refine rw_iload_n 0 dJ6_bitCount_0f7a4_0 0 rfl ?_
  refine rw_iload_n 1 dJ6_bitCount_0f7a4_1 0 rfl ?_
  refine rw_iconst 2 (v := 1) dJ6_bitCount_0f7a4_2 (by decide) ?_
  refine rw_iushr 3 dJ6_bitCount_0f7a4_3 ?_
  refine rw_ldcw 4 dJ6_bitCount_0f7a4_4 lJ6_265 ?_
  refine rw_iand 7 dJ6_bitCount_0f7a4_7 ?_
  refine rw_isub 8 dJ6_bitCount_0f7a4_8 ?_
  refine rn_ist_n 9 (fun x1 => [(0, .int x1)]) dJ6_bitCount_0f7a4_9 (by decide) (fun _ => rfl) h (fun x1 h => ?_)
  refine rw_iload_n 10 dJ6_bitCount_0f7a4_10 0 rfl ?_
  refine rw_ldcw 11 dJ6_bitCount_0f7a4_11 lJ6_266 ?_
  refine rw_iand 14 dJ6_bitCount_0f7a4_14 ?_
  refine rw_iload_n 15 dJ6_bitCount_0f7a4_15 0 rfl ?_
  refine rw_iconst 16 (v := 2) dJ6_bitCount_0f7a4_16 (by decide) ?_
  refine rw_iushr 17 dJ6_bitCount_0f7a4_17 ?_
  refine rw_ldcw 18 dJ6_bitCount_0f7a4_18 lJ6_266 ?_
  refine rw_iand 21 dJ6_bitCount_0f7a4_21 ?_
  refine rw_iadd 22 dJ6_bitCount_0f7a4_22 ?_
  refine rn_ist_n 23 (fun x2 => [(0, .int x2)]) dJ6_bitCount_0f7a4_23 (by decide) (fun _ => rfl) h (fun x2 h => ?_)
  refine rw_iload_n 24 dJ6_bitCount_0f7a4_24 0 rfl ?_
  refine rw_iload_n 25 dJ6_bitCount_0f7a4_25 0 rfl ?_
  refine rw_iconst 26 (v := 4) dJ6_bitCount_0f7a4_26 (by decide) ?_
  refine rw_iushr 27 dJ6_bitCount_0f7a4_27 ?_
  refine rw_iadd 28 dJ6_bitCount_0f7a4_28 ?_
  refine rw_ldcw 29 dJ6_bitCount_0f7a4_29 lJ6_267 ?_
  refine rw_iand 32 dJ6_bitCount_0f7a4_32 ?_
  refine rn_ist_n 33 (fun x3 => [(0, .int x3)]) dJ6_bitCount_0f7a4_33 (by decide) (fun _ => rfl) h (fun x3 h => ?_)
  refine rw_iload_n 34 dJ6_bitCount_0f7a4_34 0 rfl ?_
  refine rw_iload_n 35 dJ6_bitCount_0f7a4_35 0 rfl ?_
  refine rw_bipush 36 (v := 8) dJ6_bitCount_0f7a4_36 (by decide) ?_
  refine rw_iushr 38 dJ6_bitCount_0f7a4_38 ?_
  refine rw_iadd 39 dJ6_bitCount_0f7a4_39 ?_
  refine rn_ist_n 40 (fun x4 => [(0, .int x4)]) dJ6_bitCount_0f7a4_40 (by decide) (fun _ => rfl) h (fun x4 h => ?_)
  refine rw_iload_n 41 dJ6_bitCount_0f7a4_41 0 rfl ?_
  refine rw_iload_n 42 dJ6_bitCount_0f7a4_42 0 rfl ?_
  refine rw_bipush 43 (v := 16) dJ6_bitCount_0f7a4_43 (by decide) ?_
  refine rw_iushr 45 dJ6_bitCount_0f7a4_45 ?_
  refine rw_iadd 46 dJ6_bitCount_0f7a4_46 ?_
  refine rn_ist_n 47 (fun x5 => [(0, .int x5)]) dJ6_bitCount_0f7a4_47 (by decide) (fun _ => rfl) h (fun x5 h => ?_)
  refine rw_iload_n 48 dJ6_bitCount_0f7a4_48 0 rfl ?_
  refine rw_bipush 49 (v := 63) dJ6_bitCount_0f7a4_49 (by decide) ?_
  refine rw_iand 51 dJ6_bitCount_0f7a4_51 ?_
  exact rn_iret 52 dJ6_bitCount_0f7a4_52 rfl h
def fJ6_numberOfTrailingZeros_0f7a4_j49    (v0 : Int32) (v1 : Int32) (μ : Mem) : Option (Int32) :=
  if 16 < v0 then
    if 4 < (ush v0 4) then
      nm (ush (ush v0 4) 2) fun x2 =>
      some (((v1 + 4) + 2) + (ush x2 1))
    else
      some ((v1 + 4) + (ush (ush v0 4) 1))
  else
    if 4 < v0 then
      some ((v1 + 2) + (ush (ush v0 2) 1))
    else
      some (v1 + (ush v0 1))
def fJ6_numberOfTrailingZeros_0f7a4 (a0 : Int32) (μ : Mem) : Option (Int32) :=
  nm ((a0 ^^^ (-1)) &&& (a0 - 1)) fun x1 =>
  if 0 < x1 then
    if 65536 < x1 then
      if 256 < (ush x1 16) then
        nm (ush (ush x1 16) 8) fun x3 =>
        fJ6_numberOfTrailingZeros_0f7a4_j49 x3 ((1 + 16) + 8) μ
      else
        fJ6_numberOfTrailingZeros_0f7a4_j49 (ush x1 16) (1 + 16) μ
    else
      if 256 < x1 then
        fJ6_numberOfTrailingZeros_0f7a4_j49 (ush x1 8) (1 + 8) μ
      else
        fJ6_numberOfTrailingZeros_0f7a4_j49 x1 1 μ
  else
    some (x1 &&& 32)
set_option maxRecDepth 100000 in
theorem wJ6_numberOfTrailingZeros_0f7a4_j49 {Rf : Nat → Nat → Option Nat} {nn : Nat}   {res : Int32} (v0 : Int32) (v1 : Int32) (μ : Mem)  (h : fJ6_numberOfTrailingZeros_0f7a4_j49 v0 v1 μ = some res) : RW mJ6_numberOfTrailingZeros_0f7a4 1 nn nn 49 [(0, .int v0), (1, .int v1)] [] (μ, Rf, nn) (QN (some (.int res)) μ Rf nn) := by
  unfold fJ6_numberOfTrailingZeros_0f7a4_j49 at h
  refine rw_iload_n 49 dJ6_numberOfTrailingZeros_0f7a4_49 0 rfl ?_
  refine rw_bipush 50 (v := 16) dJ6_numberOfTrailingZeros_0f7a4_50 (by decide) ?_
  refine rn_icmp_le 52 62 dJ6_numberOfTrailingZeros_0f7a4_52 (by decide) h (fun _ h => ?_) (fun _ h => ?_)
  · refine rw_iload_n 62 dJ6_numberOfTrailingZeros_0f7a4_62 0 rfl ?_
    refine rw_iconst 63 (v := 4) dJ6_numberOfTrailingZeros_0f7a4_63 (by decide) ?_
    refine rn_icmp_le 64 74 dJ6_numberOfTrailingZeros_0f7a4_64 (by decide) h (fun _ h => ?_) (fun _ h => ?_)
    · refine rw_iload_n 74 dJ6_numberOfTrailingZeros_0f7a4_74 1 rfl ?_
      refine rw_iload_n 75 dJ6_numberOfTrailingZeros_0f7a4_75 0 rfl ?_
      refine rw_iconst 76 (v := 1) dJ6_numberOfTrailingZeros_0f7a4_76 (by decide) ?_
      refine rw_iushr 77 dJ6_numberOfTrailingZeros_0f7a4_77 ?_
      refine rw_iadd 78 dJ6_numberOfTrailingZeros_0f7a4_78 ?_
      exact rn_iret 79 dJ6_numberOfTrailingZeros_0f7a4_79 rfl h
    · refine rw_iinc 67 [(0, .int v0), (1, .int (v1 + 2))] dJ6_numberOfTrailingZeros_0f7a4_67 1 rfl rfl (by decide) rfl ?_
      refine rw_iload_n 70 dJ6_numberOfTrailingZeros_0f7a4_70 0 rfl ?_
      refine rw_iconst 71 (v := 2) dJ6_numberOfTrailingZeros_0f7a4_71 (by decide) ?_
      refine rw_iushr 72 dJ6_numberOfTrailingZeros_0f7a4_72 ?_
      refine rw_istore_n 73 [(0, .int (ush v0 2)), (1, .int (v1 + 2))] dJ6_numberOfTrailingZeros_0f7a4_73 (by decide) rfl ?_
      refine rw_iload_n 74 dJ6_numberOfTrailingZeros_0f7a4_74 1 rfl ?_
      refine rw_iload_n 75 dJ6_numberOfTrailingZeros_0f7a4_75 0 rfl ?_
      refine rw_iconst 76 (v := 1) dJ6_numberOfTrailingZeros_0f7a4_76 (by decide) ?_
      refine rw_iushr 77 dJ6_numberOfTrailingZeros_0f7a4_77 ?_
      refine rw_iadd 78 dJ6_numberOfTrailingZeros_0f7a4_78 ?_
      exact rn_iret 79 dJ6_numberOfTrailingZeros_0f7a4_79 rfl h
  · refine rw_iinc 55 [(0, .int v0), (1, .int (v1 + 4))] dJ6_numberOfTrailingZeros_0f7a4_55 1 rfl rfl (by decide) rfl ?_
    refine rw_iload_n 58 dJ6_numberOfTrailingZeros_0f7a4_58 0 rfl ?_
    refine rw_iconst 59 (v := 4) dJ6_numberOfTrailingZeros_0f7a4_59 (by decide) ?_
    refine rw_iushr 60 dJ6_numberOfTrailingZeros_0f7a4_60 ?_
    refine rw_istore_n 61 [(0, .int (ush v0 4)), (1, .int (v1 + 4))] dJ6_numberOfTrailingZeros_0f7a4_61 (by decide) rfl ?_
    refine rw_iload_n 62 dJ6_numberOfTrailingZeros_0f7a4_62 0 rfl ?_
    refine rw_iconst 63 (v := 4) dJ6_numberOfTrailingZeros_0f7a4_63 (by decide) ?_
    refine rn_icmp_le 64 74 dJ6_numberOfTrailingZeros_0f7a4_64 (by decide) h (fun _ h => ?_) (fun _ h => ?_)
    · refine rw_iload_n 74 dJ6_numberOfTrailingZeros_0f7a4_74 1 rfl ?_
      refine rw_iload_n 75 dJ6_numberOfTrailingZeros_0f7a4_75 0 rfl ?_
      refine rw_iconst 76 (v := 1) dJ6_numberOfTrailingZeros_0f7a4_76 (by decide) ?_
      refine rw_iushr 77 dJ6_numberOfTrailingZeros_0f7a4_77 ?_
      refine rw_iadd 78 dJ6_numberOfTrailingZeros_0f7a4_78 ?_
      exact rn_iret 79 dJ6_numberOfTrailingZeros_0f7a4_79 rfl h
    · refine rw_iinc 67 [(0, .int (ush v0 4)), (1, .int ((v1 + 4) + 2))] dJ6_numberOfTrailingZeros_0f7a4_67 1 rfl rfl (by decide) rfl ?_
      refine rw_iload_n 70 dJ6_numberOfTrailingZeros_0f7a4_70 0 rfl ?_
      refine rw_iconst 71 (v := 2) dJ6_numberOfTrailingZeros_0f7a4_71 (by decide) ?_
      refine rw_iushr 72 dJ6_numberOfTrailingZeros_0f7a4_72 ?_
      refine rn_ist_n 73 (fun x2 => [(0, .int x2), (1, .int ((v1 + 4) + 2))]) dJ6_numberOfTrailingZeros_0f7a4_73 (by decide) (fun _ => rfl) h (fun x2 h => ?_)
      refine rw_iload_n 74 dJ6_numberOfTrailingZeros_0f7a4_74 1 rfl ?_
      refine rw_iload_n 75 dJ6_numberOfTrailingZeros_0f7a4_75 0 rfl ?_
      refine rw_iconst 76 (v := 1) dJ6_numberOfTrailingZeros_0f7a4_76 (by decide) ?_
      refine rw_iushr 77 dJ6_numberOfTrailingZeros_0f7a4_77 ?_
      refine rw_iadd 78 dJ6_numberOfTrailingZeros_0f7a4_78 ?_
      exact rn_iret 79 dJ6_numberOfTrailingZeros_0f7a4_79 rfl h
set_option maxRecDepth 100000 in
theorem wJ6_numberOfTrailingZeros_0f7a4 {Rf : Nat → Nat → Option Nat} {nn : Nat} (a0 : Int32) (μ : Mem) {res : Int32} (h : fJ6_numberOfTrailingZeros_0f7a4 a0 μ = some res) : Ct mJ6_numberOfTrailingZeros_0f7a4 1 nn nn [.int a0] (μ, Rf, nn) (QN (some (.int res)) μ Rf nn) := by
  unfold fJ6_numberOfTrailingZeros_0f7a4 at h
  show RW mJ6_numberOfTrailingZeros_0f7a4 1 nn nn 0 [(0, .int a0)] [] (μ, Rf, nn) (QN (some (.int res)) μ Rf nn)
  refine rw_iload_n 0 dJ6_numberOfTrailingZeros_0f7a4_0 0 rfl ?_
  refine rw_iconst 1 (v := -1) dJ6_numberOfTrailingZeros_0f7a4_1 (by decide) ?_
  refine rw_ixor 2 dJ6_numberOfTrailingZeros_0f7a4_2 ?_
  refine rw_iload_n 3 dJ6_numberOfTrailingZeros_0f7a4_3 0 rfl ?_
  refine rw_iconst 4 (v := 1) dJ6_numberOfTrailingZeros_0f7a4_4 (by decide) ?_
  refine rw_isub 5 dJ6_numberOfTrailingZeros_0f7a4_5 ?_
  refine rw_iand 6 dJ6_numberOfTrailingZeros_0f7a4_6 ?_
  refine rn_ist_n 7 (fun x1 => [(0, .int x1)]) dJ6_numberOfTrailingZeros_0f7a4_7 (by decide) (fun _ => rfl) h (fun x1 h => ?_)
  refine rw_iload_n 8 dJ6_numberOfTrailingZeros_0f7a4_8 0 rfl ?_
  refine rn_if_gt 9 17 dJ6_numberOfTrailingZeros_0f7a4_9 (by decide) h (fun _ h => ?_) (fun _ h => ?_)
  · refine rw_iconst 17 (v := 1) dJ6_numberOfTrailingZeros_0f7a4_17 (by decide) ?_
    refine rw_istore_n 18 [(0, .int x1), (1, .int 1)] dJ6_numberOfTrailingZeros_0f7a4_18 (by decide) rfl ?_
    refine rw_iload_n 19 dJ6_numberOfTrailingZeros_0f7a4_19 0 rfl ?_
    refine rw_ldcw 20 dJ6_numberOfTrailingZeros_0f7a4_20 lJ6_264 ?_
    refine rn_icmp_le 23 34 dJ6_numberOfTrailingZeros_0f7a4_23 (by decide) h (fun _ h => ?_) (fun _ h => ?_)
    · refine rw_iload_n 34 dJ6_numberOfTrailingZeros_0f7a4_34 0 rfl ?_
      refine rw_sipush 35 (v := 256) dJ6_numberOfTrailingZeros_0f7a4_35 (by decide) ?_
      refine rn_icmp_le 38 49 dJ6_numberOfTrailingZeros_0f7a4_38 (by decide) h (fun _ h => ?_) (fun _ h => ?_)
      · exact wJ6_numberOfTrailingZeros_0f7a4_j49 x1 1 μ h
      · refine rw_iinc 41 [(0, .int x1), (1, .int (1 + 8))] dJ6_numberOfTrailingZeros_0f7a4_41 1 rfl rfl (by decide) rfl ?_
        refine rw_iload_n 44 dJ6_numberOfTrailingZeros_0f7a4_44 0 rfl ?_
        refine rw_bipush 45 (v := 8) dJ6_numberOfTrailingZeros_0f7a4_45 (by decide) ?_
        refine rw_iushr 47 dJ6_numberOfTrailingZeros_0f7a4_47 ?_
        refine rw_istore_n 48 [(0, .int (ush x1 8)), (1, .int (1 + 8))] dJ6_numberOfTrailingZeros_0f7a4_48 (by decide) rfl ?_
        exact wJ6_numberOfTrailingZeros_0f7a4_j49 (ush x1 8) (1 + 8) μ h
    · refine rw_iinc 26 [(0, .int x1), (1, .int (1 + 16))] dJ6_numberOfTrailingZeros_0f7a4_26 1 rfl rfl (by decide) rfl ?_
      refine rw_iload_n 29 dJ6_numberOfTrailingZeros_0f7a4_29 0 rfl ?_
      refine rw_bipush 30 (v := 16) dJ6_numberOfTrailingZeros_0f7a4_30 (by decide) ?_
      refine rw_iushr 32 dJ6_numberOfTrailingZeros_0f7a4_32 ?_
      refine rw_istore_n 33 [(0, .int (ush x1 16)), (1, .int (1 + 16))] dJ6_numberOfTrailingZeros_0f7a4_33 (by decide) rfl ?_
      refine rw_iload_n 34 dJ6_numberOfTrailingZeros_0f7a4_34 0 rfl ?_
      refine rw_sipush 35 (v := 256) dJ6_numberOfTrailingZeros_0f7a4_35 (by decide) ?_
      refine rn_icmp_le 38 49 dJ6_numberOfTrailingZeros_0f7a4_38 (by decide) h (fun _ h => ?_) (fun _ h => ?_)
      · exact wJ6_numberOfTrailingZeros_0f7a4_j49 (ush x1 16) (1 + 16) μ h
      · refine rw_iinc 41 [(0, .int (ush x1 16)), (1, .int ((1 + 16) + 8))] dJ6_numberOfTrailingZeros_0f7a4_41 1 rfl rfl (by decide) rfl ?_
        refine rw_iload_n 44 dJ6_numberOfTrailingZeros_0f7a4_44 0 rfl ?_
        refine rw_bipush 45 (v := 8) dJ6_numberOfTrailingZeros_0f7a4_45 (by decide) ?_
        refine rw_iushr 47 dJ6_numberOfTrailingZeros_0f7a4_47 ?_
        refine rn_ist_n 48 (fun x3 => [(0, .int x3), (1, .int ((1 + 16) + 8))]) dJ6_numberOfTrailingZeros_0f7a4_48 (by decide) (fun _ => rfl) h (fun x3 h => ?_)
        exact wJ6_numberOfTrailingZeros_0f7a4_j49 x3 ((1 + 16) + 8) μ h
  · refine rw_iload_n 12 dJ6_numberOfTrailingZeros_0f7a4_12 0 rfl ?_
    refine rw_bipush 13 (v := 32) dJ6_numberOfTrailingZeros_0f7a4_13 (by decide) ?_
    refine rw_iand 15 dJ6_numberOfTrailingZeros_0f7a4_15 ?_
    exact rn_iret 16 dJ6_numberOfTrailingZeros_0f7a4_16 rfl h
def fJ13_bitCount_95d88 (a0 : Int64) (μ : Mem) : Option (Int32) :=
  nm (a0 - ((lush a0 1) &&& 6148914691236517205)) fun x1 =>
  nm ((x1 &&& 3689348814741910323) + ((lush x1 2) &&& 3689348814741910323)) fun x2 =>
  nm ((x2 + (lush x2 4)) &&& 1085102592571150095) fun x3 =>
  nm (x3 + (lush x3 8)) fun x4 =>
  nm (x4 + (lush x4 16)) fun x5 =>
  nm (x5 + (lush x5 32)) fun x6 =>
  some (x6.toInt32 &&& 127)
set_option maxRecDepth 100000 in
theorem wJ13_bitCount_95d88 {Rf : Nat → Nat → Option Nat} {nn : Nat} (a0 : Int64) (μ : Mem) {res : Int32} (h : fJ13_bitCount_95d88 a0 μ = some res) : Ct mJ13_bitCount_95d88 1 nn nn [.long a0] (μ, Rf, nn) (QN (some (.int res)) μ Rf nn) := by
  unfold fJ13_bitCount_95d88 at h
  show RW mJ13_bitCount_95d88 1 nn nn 0 [(0, .long a0)] [] (μ, Rf, nn) (QN (some (.int res)) μ Rf nn)
  refine rw_lload_n 0 dJ13_bitCount_95d88_0 0 rfl ?_
  refine rw_lload_n 1 dJ13_bitCount_95d88_1 0 rfl ?_
  refine rw_iconst 2 (v := 1) dJ13_bitCount_95d88_2 (by decide) ?_
  refine rw_lushr 3 dJ13_bitCount_95d88_3 ?_
  refine rw_ldc2 4 dJ13_bitCount_95d88_4 lJ13_314 ?_
  refine rw_land 7 dJ13_bitCount_95d88_7 ?_
  refine rw_lsub 8 dJ13_bitCount_95d88_8 ?_
  refine rn_lst_n 9 (fun x1 => [(0, .long x1)]) dJ13_bitCount_95d88_9 (by decide) (fun _ => rfl) h (fun x1 h => ?_)
  refine rw_lload_n 10 dJ13_bitCount_95d88_10 0 rfl ?_
  refine rw_ldc2 11 dJ13_bitCount_95d88_11 lJ13_316 ?_
  refine rw_land 14 dJ13_bitCount_95d88_14 ?_
  refine rw_lload_n 15 dJ13_bitCount_95d88_15 0 rfl ?_
  refine rw_iconst 16 (v := 2) dJ13_bitCount_95d88_16 (by decide) ?_
  refine rw_lushr 17 dJ13_bitCount_95d88_17 ?_
  refine rw_ldc2 18 dJ13_bitCount_95d88_18 lJ13_316 ?_
  refine rw_land 21 dJ13_bitCount_95d88_21 ?_
  refine rw_ladd 22 dJ13_bitCount_95d88_22 ?_
  refine rn_lst_n 23 (fun x2 => [(0, .long x2)]) dJ13_bitCount_95d88_23 (by decide) (fun _ => rfl) h (fun x2 h => ?_)
  refine rw_lload_n 24 dJ13_bitCount_95d88_24 0 rfl ?_
  refine rw_lload_n 25 dJ13_bitCount_95d88_25 0 rfl ?_
  refine rw_iconst 26 (v := 4) dJ13_bitCount_95d88_26 (by decide) ?_
  refine rw_lushr 27 dJ13_bitCount_95d88_27 ?_
  refine rw_ladd 28 dJ13_bitCount_95d88_28 ?_
  refine rw_ldc2 29 dJ13_bitCount_95d88_29 lJ13_318 ?_
  refine rw_land 32 dJ13_bitCount_95d88_32 ?_
  refine rn_lst_n 33 (fun x3 => [(0, .long x3)]) dJ13_bitCount_95d88_33 (by decide) (fun _ => rfl) h (fun x3 h => ?_)
  refine rw_lload_n 34 dJ13_bitCount_95d88_34 0 rfl ?_
  refine rw_lload_n 35 dJ13_bitCount_95d88_35 0 rfl ?_
  refine rw_bipush 36 (v := 8) dJ13_bitCount_95d88_36 (by decide) ?_
  refine rw_lushr 38 dJ13_bitCount_95d88_38 ?_
  refine rw_ladd 39 dJ13_bitCount_95d88_39 ?_
  refine rn_lst_n 40 (fun x4 => [(0, .long x4)]) dJ13_bitCount_95d88_40 (by decide) (fun _ => rfl) h (fun x4 h => ?_)
  refine rw_lload_n 41 dJ13_bitCount_95d88_41 0 rfl ?_
  refine rw_lload_n 42 dJ13_bitCount_95d88_42 0 rfl ?_
  refine rw_bipush 43 (v := 16) dJ13_bitCount_95d88_43 (by decide) ?_
  refine rw_lushr 45 dJ13_bitCount_95d88_45 ?_
  refine rw_ladd 46 dJ13_bitCount_95d88_46 ?_
  refine rn_lst_n 47 (fun x5 => [(0, .long x5)]) dJ13_bitCount_95d88_47 (by decide) (fun _ => rfl) h (fun x5 h => ?_)
  refine rw_lload_n 48 dJ13_bitCount_95d88_48 0 rfl ?_
  refine rw_lload_n 49 dJ13_bitCount_95d88_49 0 rfl ?_
  refine rw_bipush 50 (v := 32) dJ13_bitCount_95d88_50 (by decide) ?_
  refine rw_lushr 52 dJ13_bitCount_95d88_52 ?_
  refine rw_ladd 53 dJ13_bitCount_95d88_53 ?_
  refine rn_lst_n 54 (fun x6 => [(0, .long x6)]) dJ13_bitCount_95d88_54 (by decide) (fun _ => rfl) h (fun x6 h => ?_)
  refine rw_lload_n 55 dJ13_bitCount_95d88_55 0 rfl ?_
  refine rw_l2i 56 dJ13_bitCount_95d88_56 ?_
  refine rw_bipush 57 (v := 127) dJ13_bitCount_95d88_57 (by decide) ?_
  refine rw_iand 59 dJ13_bitCount_95d88_59 ?_
  exact rn_iret 60 dJ13_bitCount_95d88_60 rfl h
def fX2_startLaw (t0 : Nat) (a1 : Int32) (μ : Mem) : Option (Mem) :=
  if inb a1 4 then nm (wI μ (t0 + 3) a1.toNatClampNeg (μ.1 t0 3)) fun μ1 =>
  some μ1
  else none
set_option maxRecDepth 100000 in
theorem wX2_startLaw {Rf : Nat → Nat → Option Nat} {nn : Nat} (t0 : Nat) (ht0 : okX2 Rf nn t0) (a1 : Int32) (μ : Mem) {res : Mem} (h : fX2_startLaw t0 a1 μ = some res) : Ct mX2_startLaw 1 nn nn [.ref t0, .int a1] (μ, Rf, nn) (QN none res Rf nn) := by
  unfold fX2_startLaw at h
  show RW mX2_startLaw 1 nn nn 0 [(0, .ref t0), (1, .int a1)] [] (μ, Rf, nn) (QN none res Rf nn)
  refine rw_aload_n 0 dX2_startLaw_0 0 rfl ?_
  refine rw_getR 1 2 2 kc2 dX2_startLaw_1 (o2l ht0) (o2n ht0) fX2_18 rfl (o2r2 ht0) ?_
  refine rw_iload_n 4 dX2_startLaw_4 1 rfl ?_
  refine rw_aload_n 5 dX2_startLaw_5 0 rfl ?_
  refine rw_getI 6 2 3 kc2 dX2_startLaw_6 (o2l ht0) (o2n ht0) fX2_21 rfl ?_
  refine rn_iast 9 dX2_startLaw_9 (o2l2 ht0) (o2n2 ht0) h (fun μ1 h => ?_)
  exact rn_vret 10 dX2_startLaw_10 rfl h
def fX2_add (t0 : Nat) (a1 : Int32) (a2 : Int32) (μ : Mem) : Option (Int32 × Mem) :=
  if (μ.1 t0 3) < 408 then
    if inb (μ.1 t0 3) 408 then nm (wI μ (t0 + 1) (μ.1 t0 3).toNatClampNeg a1) fun μ1 =>
    if inb (μ1.1 t0 3) 408 then nm (wI μ1 (t0 + 2) (μ1.1 t0 3).toNatClampNeg a2) fun μ2 =>
    nm (wI μ2 t0 3 ((μ2.1 t0 3) + 1)) fun μ3 =>
    some (((μ3.1 t0 3) - 1), μ3)
    else none
    else none
  else
    some (0, μ)
set_option maxRecDepth 100000 in
theorem wX2_add {Rf : Nat → Nat → Option Nat} {nn : Nat} (t0 : Nat) (ht0 : okX2 Rf nn t0) (a1 : Int32) (a2 : Int32) (μ : Mem) {res : Int32 × Mem} (h : fX2_add t0 a1 a2 μ = some res) : Ct mX2_add 1 nn nn [.ref t0, .int a1, .int a2] (μ, Rf, nn) (QN (some (.int res.1)) res.2 Rf nn) := by
  unfold fX2_add at h
  show RW mX2_add 1 nn nn 0 [(0, .ref t0), (1, .int a1), (2, .int a2)] [] (μ, Rf, nn) (QN (some (.int res.1)) res.2 Rf nn)
  refine rw_aload_n 0 dX2_add_0 0 rfl ?_
  refine rw_getI 1 2 3 kc2 dX2_add_1 (o2l ht0) (o2n ht0) fX2_21 rfl ?_
  refine rw_sipush 4 (v := 408) dX2_add_4 (by decide) ?_
  refine rn_icmp_lt 7 12 dX2_add_7 (by decide) h (fun _ h => ?_) (fun _ h => ?_)
  · refine rw_aload_n 12 dX2_add_12 0 rfl ?_
    refine rw_getR 13 2 0 kc2 dX2_add_13 (o2l ht0) (o2n ht0) fX2_11 rfl (o2r0 ht0) ?_
    refine rw_aload_n 16 dX2_add_16 0 rfl ?_
    refine rw_getI 17 2 3 kc2 dX2_add_17 (o2l ht0) (o2n ht0) fX2_21 rfl ?_
    refine rw_iload_n 20 dX2_add_20 1 rfl ?_
    refine rn_iast 21 dX2_add_21 (o2l0 ht0) (o2n0 ht0) h (fun μ1 h => ?_)
    refine rw_aload_n 22 dX2_add_22 0 rfl ?_
    refine rw_getR 23 2 1 kc2 dX2_add_23 (o2l ht0) (o2n ht0) fX2_15 rfl (o2r1 ht0) ?_
    refine rw_aload_n 26 dX2_add_26 0 rfl ?_
    refine rw_getI 27 2 3 kc2 dX2_add_27 (o2l ht0) (o2n ht0) fX2_21 rfl ?_
    refine rw_iload_n 30 dX2_add_30 2 rfl ?_
    refine rn_iast 31 dX2_add_31 (o2l1 ht0) (o2n1 ht0) h (fun μ2 h => ?_)
    refine rw_aload_n 32 dX2_add_32 0 rfl ?_
    refine rw_dup 33 dX2_add_33 rfl ?_
    refine rw_getI 34 2 3 kc2 dX2_add_34 (o2l ht0) (o2n ht0) fX2_21 rfl ?_
    refine rw_iconst 37 (v := 1) dX2_add_37 (by decide) ?_
    refine rw_iadd 38 dX2_add_38 ?_
    refine rn_putI 39 2 3 kc2 dX2_add_39 (o2l ht0) (o2n ht0) fX2_21 (fun q hq => by cases hq; rfl) rfl rfl rfl h (fun μ3 h => ?_)
    refine rw_aload_n 42 dX2_add_42 0 rfl ?_
    refine rw_getI 43 2 3 kc2 dX2_add_43 (o2l ht0) (o2n ht0) fX2_21 rfl ?_
    refine rw_iconst 46 (v := 1) dX2_add_46 (by decide) ?_
    refine rw_isub 47 dX2_add_47 ?_
    exact rn_iret2 48 dX2_add_48 rfl h
  · refine rw_iconst 10 (v := 0) dX2_add_10 (by decide) ?_
    exact rn_iret2 11 dX2_add_11 rfl h
def fX2_addShortLaw (t0 : Nat) (a1 : Int32) (a2 : Int32) (a3 : Int32) (μ : Mem) : Option (Mem) :=
  (fX2_startLaw t0 a1 μ).bind fun q1 =>
  (fX2_add t0 a2 a3 q1).bind fun q2 =>
  (fX2_add t0 0 0 q2.2).bind fun q3 =>
  some q3.2
set_option maxRecDepth 100000 in
theorem wX2_addShortLaw {Rf : Nat → Nat → Option Nat} {nn : Nat} (t0 : Nat) (ht0 : okX2 Rf nn t0) (a1 : Int32) (a2 : Int32) (a3 : Int32) (μ : Mem) {res : Mem} (h : fX2_addShortLaw t0 a1 a2 a3 μ = some res) : Ct mX2_addShortLaw 2 nn nn [.ref t0, .int a1, .int a2, .int a3] (μ, Rf, nn) (QN none res Rf nn) := by
  unfold fX2_addShortLaw at h
  show RW mX2_addShortLaw 2 nn nn 0 [(0, .ref t0), (1, .int a1), (2, .int a2), (3, .int a3)] [] (μ, Rf, nn) (QN none res Rf nn)
  refine rw_aload_n 0 dX2_addShortLaw_0 0 rfl ?_
  refine rw_iload_n 1 dX2_addShortLaw_1 1 rfl ?_
  refine rn_cVmv 2 2 [.int a1] dX2_addShortLaw_2 caX2_startLaw lX2_29 inX2_startLaw slX2_startLaw rfl (o2l ht0) ⟨_, rfl, rfl⟩ (o2n ht0) naX2_startLaw (Nat.le_of_ble_eq_true rfl) (Nat.le_of_ble_eq_true rfl) (by decide) (fun _ hq => wX2_startLaw t0 ht0 a1 μ hq) h (fun q1 h => ?_)
  refine rw_aload_n 5 dX2_addShortLaw_5 0 rfl ?_
  refine rw_iload_n 6 dX2_addShortLaw_6 2 rfl ?_
  refine rw_iload_n 7 dX2_addShortLaw_7 3 rfl ?_
  refine rn_cVmi 8 2 [.int a2, .int a3] dX2_addShortLaw_8 caX2_add lX2_33 inX2_add slX2_add rfl (o2l ht0) ⟨_, rfl, rfl⟩ (o2n ht0) naX2_add (Nat.le_of_ble_eq_true rfl) (Nat.le_of_ble_eq_true rfl) (by decide) (fun _ hq => wX2_add t0 ht0 a2 a3 q1 hq) h (fun q2 h => ?_)
  refine rw_pop 11 dX2_addShortLaw_11 rfl ?_
  refine rw_aload_n 12 dX2_addShortLaw_12 0 rfl ?_
  refine rw_iconst 13 (v := 0) dX2_addShortLaw_13 (by decide) ?_
  refine rw_iconst 14 (v := 0) dX2_addShortLaw_14 (by decide) ?_
  refine rn_cVmi 15 2 [.int 0, .int 0] dX2_addShortLaw_15 caX2_add lX2_33 inX2_add slX2_add rfl (o2l ht0) ⟨_, rfl, rfl⟩ (o2n ht0) naX2_add (Nat.le_of_ble_eq_true rfl) (Nat.le_of_ble_eq_true rfl) (by decide) (fun _ hq => wX2_add t0 ht0 0 0 q2.2 hq) h (fun q3 h => ?_)
  refine rw_pop 18 dX2_addShortLaw_18 rfl ?_
  exact rn_vret 19 dX2_addShortLaw_19 rfl h
def fX2_begin (t0 : Nat) (μ : Mem) : Option (Mem) :=
  nm (wI μ t0 3 0) fun μ1 =>
  (fX2_addShortLaw t0 0 13 0 μ1).bind fun q2 =>
  (fX2_addShortLaw t0 1 13 1 q2).bind fun q3 =>
  (fX2_addShortLaw t0 2 3 1 q3).bind fun q4 =>
  (fX2_addShortLaw t0 3 13 5 q4).bind fun q5 =>
  some q5
set_option maxRecDepth 100000 in
theorem wX2_begin {Rf : Nat → Nat → Option Nat} {nn : Nat} (t0 : Nat) (ht0 : okX2 Rf nn t0) (μ : Mem) {res : Mem} (h : fX2_begin t0 μ = some res) : Ct mX2_begin 3 nn nn [.ref t0] (μ, Rf, nn) (QN none res Rf nn) := by
  unfold fX2_begin at h
  show RW mX2_begin 3 nn nn 0 [(0, .ref t0)] [] (μ, Rf, nn) (QN none res Rf nn)
  refine rw_aload_n 0 dX2_begin_0 0 rfl ?_
  refine rw_iconst 1 (v := 0) dX2_begin_1 (by decide) ?_
  refine rn_putI 2 2 3 kc2 dX2_begin_2 (o2l ht0) (o2n ht0) fX2_21 (fun q hq => by cases hq; rfl) rfl rfl rfl h (fun μ1 h => ?_)
  refine rw_aload_n 5 dX2_begin_5 0 rfl ?_
  refine rw_iconst 6 (v := 0) dX2_begin_6 (by decide) ?_
  refine rw_bipush 7 (v := 13) dX2_begin_7 (by decide) ?_
  refine rw_iconst 9 (v := 0) dX2_begin_9 (by decide) ?_
  refine rn_cVmv 10 2 [.int 0, .int 13, .int 0] dX2_begin_10 caX2_addShortLaw lX2_25 inX2_addShortLaw slX2_addShortLaw rfl (o2l ht0) ⟨_, rfl, rfl⟩ (o2n ht0) naX2_addShortLaw (Nat.le_of_ble_eq_true rfl) (Nat.le_of_ble_eq_true rfl) (by decide) (fun _ hq => wX2_addShortLaw t0 ht0 0 13 0 μ1 hq) h (fun q2 h => ?_)
  refine rw_aload_n 13 dX2_begin_13 0 rfl ?_
  refine rw_iconst 14 (v := 1) dX2_begin_14 (by decide) ?_
  refine rw_bipush 15 (v := 13) dX2_begin_15 (by decide) ?_
  refine rw_iconst 17 (v := 1) dX2_begin_17 (by decide) ?_
  refine rn_cVmv 18 2 [.int 1, .int 13, .int 1] dX2_begin_18 caX2_addShortLaw lX2_25 inX2_addShortLaw slX2_addShortLaw rfl (o2l ht0) ⟨_, rfl, rfl⟩ (o2n ht0) naX2_addShortLaw (Nat.le_of_ble_eq_true rfl) (Nat.le_of_ble_eq_true rfl) (by decide) (fun _ hq => wX2_addShortLaw t0 ht0 1 13 1 q2 hq) h (fun q3 h => ?_)
  refine rw_aload_n 21 dX2_begin_21 0 rfl ?_
  refine rw_iconst 22 (v := 2) dX2_begin_22 (by decide) ?_
  refine rw_iconst 23 (v := 3) dX2_begin_23 (by decide) ?_
  refine rw_iconst 24 (v := 1) dX2_begin_24 (by decide) ?_
  refine rn_cVmv 25 2 [.int 2, .int 3, .int 1] dX2_begin_25 caX2_addShortLaw lX2_25 inX2_addShortLaw slX2_addShortLaw rfl (o2l ht0) ⟨_, rfl, rfl⟩ (o2n ht0) naX2_addShortLaw (Nat.le_of_ble_eq_true rfl) (Nat.le_of_ble_eq_true rfl) (by decide) (fun _ hq => wX2_addShortLaw t0 ht0 2 3 1 q3 hq) h (fun q4 h => ?_)
  refine rw_aload_n 28 dX2_begin_28 0 rfl ?_
  refine rw_iconst 29 (v := 3) dX2_begin_29 (by decide) ?_
  refine rw_bipush 30 (v := 13) dX2_begin_30 (by decide) ?_
  refine rw_iconst 32 (v := 5) dX2_begin_32 (by decide) ?_
  refine rn_cVmv 33 2 [.int 3, .int 13, .int 5] dX2_begin_33 caX2_addShortLaw lX2_25 inX2_addShortLaw slX2_addShortLaw rfl (o2l ht0) ⟨_, rfl, rfl⟩ (o2n ht0) naX2_addShortLaw (Nat.le_of_ble_eq_true rfl) (Nat.le_of_ble_eq_true rfl) (by decide) (fun _ hq => wX2_addShortLaw t0 ht0 3 13 5 q4 hq) h (fun q5 h => ?_)
  exact rn_vret 36 dX2_begin_36 rfl h
def fX7_begin (t0 : Nat) (μ : Mem) : Option (Mem) :=
  nm (wI μ t0 0 0) fun μ1 =>
  nm (wI μ1 t0 3 0) fun μ2 =>
  nm (wI μ2 t0 7 0) fun μ3 =>
  nm (wI μ3 t0 8 100) fun μ4 =>
  nm (wI μ4 t0 9 0) fun μ5 =>
  (fX2_begin (t0 + 6) μ5).bind fun q6 =>
  some q6
set_option maxRecDepth 100000 in
theorem wX7_begin {Rf : Nat → Nat → Option Nat} {nn : Nat} (t0 : Nat) (ht0 : okX7 Rf nn t0) (μ : Mem) {res : Mem} (h : fX7_begin t0 μ = some res) : Ct mX7_begin 4 nn nn [.ref t0] (μ, Rf, nn) (QN none res Rf nn) := by
  unfold fX7_begin at h
  show RW mX7_begin 4 nn nn 0 [(0, .ref t0)] [] (μ, Rf, nn) (QN none res Rf nn)
  refine rw_aload_n 0 dX7_begin_0 0 rfl ?_
  refine rw_iconst 1 (v := 0) dX7_begin_1 (by decide) ?_
  refine rn_putI 2 7 0 kc7 dX7_begin_2 (o7l ht0) (o7n ht0) fX7_9 (fun q hq => by cases hq; rfl) rfl rfl rfl h (fun μ1 h => ?_)
  refine rw_aload_n 5 dX7_begin_5 0 rfl ?_
  refine rw_iconst 6 (v := 0) dX7_begin_6 (by decide) ?_
  refine rn_putI 7 7 3 kc7 dX7_begin_7 (o7l ht0) (o7n ht0) fX7_22 (fun q hq => by cases hq; rfl) rfl rfl rfl h (fun μ2 h => ?_)
  refine rw_aload_n 10 dX7_begin_10 0 rfl ?_
  refine rw_iconst 11 (v := 0) dX7_begin_11 (by decide) ?_
  refine rn_putI 12 7 7 kc7 dX7_begin_12 (o7l ht0) (o7n ht0) fX7_34 (fun q hq => by cases hq; rfl) rfl rfl rfl h (fun μ3 h => ?_)
  refine rw_aload_n 15 dX7_begin_15 0 rfl ?_
  refine rw_bipush 16 (v := 100) dX7_begin_16 (by decide) ?_
  refine rn_putI 18 7 8 kc7 dX7_begin_18 (o7l ht0) (o7n ht0) fX7_37 (fun q hq => by cases hq; rfl) rfl rfl rfl h (fun μ4 h => ?_)
  refine rw_aload_n 21 dX7_begin_21 0 rfl ?_
  refine rw_iconst 22 (v := 0) dX7_begin_22 (by decide) ?_
  refine rn_putI 23 7 9 kc7 dX7_begin_23 (o7l ht0) (o7n ht0) fX7_40 (fun q hq => by cases hq; rfl) rfl rfl rfl h (fun μ5 h => ?_)
  refine rw_aload_n 26 dX7_begin_26 0 rfl ?_
  refine rw_getR 27 7 10 kc7 dX7_begin_27 (o7l ht0) (o7n ht0) fX7_46 rfl (o7r10 ht0) ?_
  refine rn_cVmv 30 2 [] dX7_begin_30 caX2_begin lX7_76 inX2_begin slX2_begin rfl (o2l (o7k10 ht0)) ⟨_, rfl, rfl⟩ (o2n (o7k10 ht0)) naX2_begin (Nat.le_of_ble_eq_true rfl) (Nat.le_of_ble_eq_true rfl) (by decide) (fun _ hq => wX2_begin (t0 + 6) (o7k10 ht0) μ5 hq) h (fun q6 h => ?_)
  exact rn_vret 33 dX7_begin_33 rfl h
def fX7_isPeaceful_2 (t0 : Nat)  (v1 : Int32) (μ : Mem) (K : Unit → Option (Bool)) : Nat → Int32 → Option (Bool)
  | 0, _ => none
  | n + 1, v2 =>
    if v2 < (μ.1 t0 3) then
      if ((v1 >>> (v2 &&& 31)) &&& 1) = 1 then
        if inb v2 7 then
        if (v1 &&& (μ.1 (t0 + 10) v2.toNatClampNeg)) = 0 then
          fX7_isPeaceful_2 t0 v1 μ K n (v2 + 1)
        else
          some false
        else none
      else
        fX7_isPeaceful_2 t0 v1 μ K n (v2 + 1)
    else
      K ()
def fX7_isPeaceful (t0 : Nat) (a1 : Int32) (μ : Mem) : Option (Bool) :=
  fX7_isPeaceful_2 t0 a1 μ (fun _ =>
      some true
  ) FU 0
set_option maxRecDepth 100000 in
theorem wX7_isPeaceful_2 {Rf : Nat → Nat → Option Nat} {nn : Nat} (t0 : Nat) (ht0 : okX7 Rf nn t0)  (v1 : Int32) (μ : Mem) (K : Unit → Option (Bool)) {res : Bool} (hK : ∀ (_ : Unit), K () = some res → RW mX7_isPeaceful 1 nn nn 38 [] [] (μ, Rf, nn) (QN (some (.int (b2i res))) μ Rf nn)) : ∀ (n9 : Nat) (v2 : Int32), fX7_isPeaceful_2 t0 v1 μ K n9 v2 = some res → RW mX7_isPeaceful 1 nn nn 2 [(0, .ref t0), (1, .int v1), (2, .int v2)] [] (μ, Rf, nn) (QN (some (.int (b2i res))) μ Rf nn) := by
  intro n9
  induction n9 with
  | zero => intro _ h; cases h
  | succ n ih =>
    intro v2 h
    unfold fX7_isPeaceful_2 at h
    refine rw_iload_n 2 dX7_isPeaceful_2 2 rfl ?_
    refine rw_aload_n 3 dX7_isPeaceful_3 0 rfl ?_
    refine rw_getI 4 7 3 kc7 dX7_isPeaceful_4 (o7l ht0) (o7n ht0) fX7_22 rfl ?_
    refine rn_icmp_ge 7 38 dX7_isPeaceful_7 (by decide) h (fun _ h => ?_) (fun _ h => ?_)
    · refine rw_pick 38 [] rfl ?_
      exact hK () h
    · refine rw_iload_n 10 dX7_isPeaceful_10 1 rfl ?_
      refine rw_iload_n 11 dX7_isPeaceful_11 2 rfl ?_
      refine rw_ishr 12 dX7_isPeaceful_12 ?_
      refine rw_iconst 13 (v := 1) dX7_isPeaceful_13 (by decide) ?_
      refine rw_iand 14 dX7_isPeaceful_14 ?_
      refine rw_iconst 15 (v := 1) dX7_isPeaceful_15 (by decide) ?_
      refine rn_icmp_ne 16 32 dX7_isPeaceful_16 (by decide) h (fun _ h => ?_) (fun _ h => ?_)
      · refine rw_iinc 32 [(0, .ref t0), (1, .int v1), (2, .int (v2 + 1))] dX7_isPeaceful_32 2 rfl rfl (by decide) rfl ?_
        refine rw_goto 35 2 dX7_isPeaceful_35 (by decide) ?_
        exact ih (v2 + 1) h
      · refine rw_iload_n 19 dX7_isPeaceful_19 1 rfl ?_
        refine rw_aload_n 20 dX7_isPeaceful_20 0 rfl ?_
        refine rw_getR 21 7 11 kc7 dX7_isPeaceful_21 (o7l ht0) (o7n ht0) fX7_50 rfl (o7r11 ht0) ?_
        refine rw_iload_n 24 dX7_isPeaceful_24 2 rfl ?_
        refine rn_iald 25 dX7_isPeaceful_25 (o7l11 ht0) (o7n11 ht0) h (fun h => ?_)
        refine rw_iand 26 dX7_isPeaceful_26 ?_
        refine rn_if_eq 27 32 dX7_isPeaceful_27 (by decide) h (fun _ h => ?_) (fun _ h => ?_)
        · refine rw_iinc 32 [(0, .ref t0), (1, .int v1), (2, .int (v2 + 1))] dX7_isPeaceful_32 2 rfl rfl (by decide) rfl ?_
          refine rw_goto 35 2 dX7_isPeaceful_35 (by decide) ?_
          exact ih (v2 + 1) h
        · refine rw_iconst 30 (v := 0) dX7_isPeaceful_30 (by decide) ?_
          exact rn_zret 31 (v := false) dX7_isPeaceful_31 rfl h
set_option maxRecDepth 100000 in
theorem wX7_isPeaceful {Rf : Nat → Nat → Option Nat} {nn : Nat} (t0 : Nat) (ht0 : okX7 Rf nn t0) (a1 : Int32) (μ : Mem) {res : Bool} (h : fX7_isPeaceful t0 a1 μ = some res) : Ct mX7_isPeaceful 1 nn nn [.ref t0, .int a1] (μ, Rf, nn) (QN (some (.int (b2i res))) μ Rf nn) := by
  unfold fX7_isPeaceful at h
  show RW mX7_isPeaceful 1 nn nn 0 [(0, .ref t0), (1, .int a1)] [] (μ, Rf, nn) (QN (some (.int (b2i res))) μ Rf nn)
  refine rw_iconst 0 (v := 0) dX7_isPeaceful_0 (by decide) ?_
  refine rw_istore_n 1 [(0, .ref t0), (1, .int a1), (2, .int 0)] dX7_isPeaceful_1 (by decide) rfl ?_
  refine wX7_isPeaceful_2 t0 ht0 a1 μ _ (fun _ h => ?_) FU 0 h
  refine rw_iconst 38 (v := 1) dX7_isPeaceful_38 (by decide) ?_
  exact rn_zret 39 (v := true) dX7_isPeaceful_39 rfl h
def fX7_findClashes_2 (t0 : Nat)    (K : Mem → Option (Mem)) : Nat → Int32 → Mem → Option (Mem)
  | 0, _, _ => none
  | n + 1, v1, μ =>
    if v1 < (μ.1 t0 3) then
      if inb v1 7 then
      if inb v1 7 then
      if inb v1 7 then nm (wJ μ (t0 + 11) v1.toNatClampNeg (lsh ((lsh (1 : Int64) (μ.1 (t0 + 4) v1.toNatClampNeg)) - 1) (μ.1 (t0 + 3) v1.toNatClampNeg))) fun μ1 =>
      fX7_findClashes_2 t0 K n (v1 + 1) μ1
      else none
      else none
      else none
    else
      K μ
def fX7_findClashes_63 (t0 : Nat)  (v1 : Int32)  (K : Mem → Option (Mem)) : Nat → Int32 → Mem → Option (Mem)
  | 0, _, _ => none
  | n + 1, v2, μ =>
    if v2 < (μ.1 t0 3) then
      if v2 = v1 then
        fX7_findClashes_63 t0 v1 K n (v2 + 1) μ
      else
        if inb v1 7 then
        if inb v2 7 then
        if ((μ.2 (t0 + 11) v1.toNatClampNeg) &&& (μ.2 (t0 + 11) v2.toNatClampNeg)) = 0 then
          fX7_findClashes_63 t0 v1 K n (v2 + 1) μ
        else
          if inb v1 7 then
          if inb v1 7 then nm (wI μ (t0 + 10) v1.toNatClampNeg ((μ.1 (t0 + 10) v1.toNatClampNeg) ||| ((1 : Int32) <<< (v2 &&& 31)))) fun μ4 =>
          fX7_findClashes_63 t0 v1 K n (v2 + 1) μ4
          else none
          else none
        else none
        else none
    else
      K μ
def fX7_findClashes_41 (t0 : Nat)    (K : Mem → Option (Mem)) : Nat → Int32 → Mem → Option (Mem)
  | 0, _, _ => none
  | n + 1, v1, μ =>
    if v1 < (μ.1 t0 3) then
      if inb v1 7 then
      if inb v1 7 then nm (wI μ (t0 + 10) v1.toNatClampNeg (μ.1 (t0 + 13) v1.toNatClampNeg)) fun μ3 =>
      fX7_findClashes_63 t0 v1 (fun μ5 =>
          fX7_findClashes_41 t0 K n (v1 + 1) μ5
      ) FU 0 μ3
      else none
      else none
    else
      K μ
def fX7_findClashes_120 (t0 : Nat)    (K : Mem → Option (Mem)) : Nat → Int32 → Mem → Option (Mem)
  | 0, _, _ => none
  | n + 1, v1, μ =>
    if v1 < ((1 : Int32) <<< ((μ.1 t0 3) &&& 31)) then
      (fX7_isPeaceful t0 v1 μ).bind fun q7 =>
      if inb v1 128 then nm (wI μ (t0 + 12) v1.toNatClampNeg ((b2i q7) &&& 1)) fun μ8 =>
      fX7_findClashes_120 t0 K n (v1 + 1) μ8
      else none
    else
      K μ
def fX7_findClashes (t0 : Nat) (μ : Mem) : Option (Mem) :=
  fX7_findClashes_2 t0 (fun μ2 =>
      fX7_findClashes_41 t0 (fun μ6 =>
          fX7_findClashes_120 t0 (fun μ9 =>
              some μ9
          ) FU 0 μ6
      ) FU 0 μ2
  ) FU 0 μ
set_option maxRecDepth 100000 in
theorem wX7_findClashes_2 {Rf : Nat → Nat → Option Nat} {nn : Nat} (t0 : Nat) (ht0 : okX7 Rf nn t0)    (K : Mem → Option (Mem)) {res : Mem} (hK : ∀  (μ : Mem), K μ = some res → RW mX7_findClashes 2 nn nn 39 [(0, .ref t0)] [] (μ, Rf, nn) (QN none res Rf nn)) : ∀ (n9 : Nat) (v1 : Int32) (μ : Mem), fX7_findClashes_2 t0 K n9 v1 μ = some res → RW mX7_findClashes 2 nn nn 2 [(0, .ref t0), (1, .int v1)] [] (μ, Rf, nn) (QN none res Rf nn) := by
  intro n9
  induction n9 with
  | zero => intro _ _ h; cases h
  | succ n ih =>
    intro v1 μ h
    unfold fX7_findClashes_2 at h
    refine rw_iload_n 2 dX7_findClashes_2 1 rfl ?_
    refine rw_aload_n 3 dX7_findClashes_3 0 rfl ?_
    refine rw_getI 4 7 3 kc7 dX7_findClashes_4 (o7l ht0) (o7n ht0) fX7_22 rfl ?_
    refine rn_icmp_ge 7 39 dX7_findClashes_7 (by decide) h (fun _ h => ?_) (fun _ h => ?_)
    · refine rw_pick 39 [0] rfl ?_
      exact hK μ h
    · refine rw_aload_n 10 dX7_findClashes_10 0 rfl ?_
      refine rw_getR 11 7 12 kc7 dX7_findClashes_11 (o7l ht0) (o7n ht0) fX7_53 rfl (o7r12 ht0) ?_
      refine rw_iload_n 14 dX7_findClashes_14 1 rfl ?_
      refine rw_lconst 15 (v := 1) dX7_findClashes_15 (by decide) ?_
      refine rw_aload_n 16 dX7_findClashes_16 0 rfl ?_
      refine rw_getR 17 7 5 kc7 dX7_findClashes_17 (o7l ht0) (o7n ht0) fX7_28 rfl (o7r5 ht0) ?_
      refine rw_iload_n 20 dX7_findClashes_20 1 rfl ?_
      refine rn_iald 21 dX7_findClashes_21 (o7l5 ht0) (o7n5 ht0) h (fun h => ?_)
      refine rw_lshl 22 dX7_findClashes_22 ?_
      refine rw_lconst 23 (v := 1) dX7_findClashes_23 (by decide) ?_
      refine rw_lsub 24 dX7_findClashes_24 ?_
      refine rw_aload_n 25 dX7_findClashes_25 0 rfl ?_
      refine rw_getR 26 7 4 kc7 dX7_findClashes_26 (o7l ht0) (o7n ht0) fX7_25 rfl (o7r4 ht0) ?_
      refine rw_iload_n 29 dX7_findClashes_29 1 rfl ?_
      refine rn_iald 30 dX7_findClashes_30 (o7l4 ht0) (o7n4 ht0) h (fun h => ?_)
      refine rw_lshl 31 dX7_findClashes_31 ?_
      refine rn_last 32 dX7_findClashes_32 (o7l12 ht0) (o7n12 ht0) h (fun μ1 h => ?_)
      refine rw_iinc 33 [(0, .ref t0), (1, .int (v1 + 1))] dX7_findClashes_33 1 rfl rfl (by decide) rfl ?_
      refine rw_goto 36 2 dX7_findClashes_36 (by decide) ?_
      exact ih (v1 + 1) μ1 h
set_option maxRecDepth 100000 in
theorem wX7_findClashes_63 {Rf : Nat → Nat → Option Nat} {nn : Nat} (t0 : Nat) (ht0 : okX7 Rf nn t0)  (v1 : Int32)  (K : Mem → Option (Mem)) {res : Mem} (hK : ∀  (μ : Mem), K μ = some res → RW mX7_findClashes 2 nn nn 112 [(0, .ref t0), (1, .int v1)] [] (μ, Rf, nn) (QN none res Rf nn)) : ∀ (n9 : Nat) (v2 : Int32) (μ : Mem), fX7_findClashes_63 t0 v1 K n9 v2 μ = some res → RW mX7_findClashes 2 nn nn 63 [(0, .ref t0), (1, .int v1), (2, .int v2)] [] (μ, Rf, nn) (QN none res Rf nn) := by
  intro n9
  induction n9 with
  | zero => intro _ _ h; cases h
  | succ n ih =>
    intro v2 μ h
    unfold fX7_findClashes_63 at h
    refine rw_iload_n 63 dX7_findClashes_63 2 rfl ?_
    refine rw_aload_n 64 dX7_findClashes_64 0 rfl ?_
    refine rw_getI 65 7 3 kc7 dX7_findClashes_65 (o7l ht0) (o7n ht0) fX7_22 rfl ?_
    refine rn_icmp_ge 68 112 dX7_findClashes_68 (by decide) h (fun _ h => ?_) (fun _ h => ?_)
    · refine rw_pick 112 [0, 1] rfl ?_
      exact hK μ h
    · refine rw_iload_n 71 dX7_findClashes_71 2 rfl ?_
      refine rw_iload_n 72 dX7_findClashes_72 1 rfl ?_
      refine rn_icmp_eq 73 106 dX7_findClashes_73 (by decide) h (fun _ h => ?_) (fun _ h => ?_)
      · refine rw_iinc 106 [(0, .ref t0), (1, .int v1), (2, .int (v2 + 1))] dX7_findClashes_106 2 rfl rfl (by decide) rfl ?_
        refine rw_goto 109 63 dX7_findClashes_109 (by decide) ?_
        exact ih (v2 + 1) μ h
      · refine rw_aload_n 76 dX7_findClashes_76 0 rfl ?_
        refine rw_getR 77 7 12 kc7 dX7_findClashes_77 (o7l ht0) (o7n ht0) fX7_53 rfl (o7r12 ht0) ?_
        refine rw_iload_n 80 dX7_findClashes_80 1 rfl ?_
        refine rn_lald 81 dX7_findClashes_81 (o7l12 ht0) (o7n12 ht0) h (fun h => ?_)
        refine rw_aload_n 82 dX7_findClashes_82 0 rfl ?_
        refine rw_getR 83 7 12 kc7 dX7_findClashes_83 (o7l ht0) (o7n ht0) fX7_53 rfl (o7r12 ht0) ?_
        refine rw_iload_n 86 dX7_findClashes_86 2 rfl ?_
        refine rn_lald 87 dX7_findClashes_87 (o7l12 ht0) (o7n12 ht0) h (fun h => ?_)
        refine rw_land 88 dX7_findClashes_88 ?_
        refine rw_lconst 89 (v := 0) dX7_findClashes_89 (by decide) ?_
        refine rn_lcmp_eq 90 106 dX7_findClashes_90 dX7_findClashes_91 (by decide) h (fun _ h => ?_) (fun _ h => ?_)
        · refine rw_iinc 106 [(0, .ref t0), (1, .int v1), (2, .int (v2 + 1))] dX7_findClashes_106 2 rfl rfl (by decide) rfl ?_
          refine rw_goto 109 63 dX7_findClashes_109 (by decide) ?_
          exact ih (v2 + 1) μ h
        · refine rw_aload_n 94 dX7_findClashes_94 0 rfl ?_
          refine rw_getR 95 7 11 kc7 dX7_findClashes_95 (o7l ht0) (o7n ht0) fX7_50 rfl (o7r11 ht0) ?_
          refine rw_iload_n 98 dX7_findClashes_98 1 rfl ?_
          refine rw_dup2 99 dX7_findClashes_99 rfl rfl ?_
          refine rn_iald 100 dX7_findClashes_100 (o7l11 ht0) (o7n11 ht0) h (fun h => ?_)
          refine rw_iconst 101 (v := 1) dX7_findClashes_101 (by decide) ?_
          refine rw_iload_n 102 dX7_findClashes_102 2 rfl ?_
          refine rw_ishl 103 dX7_findClashes_103 ?_
          refine rw_ior 104 dX7_findClashes_104 ?_
          refine rn_iast 105 dX7_findClashes_105 (o7l11 ht0) (o7n11 ht0) h (fun μ4 h => ?_)
          refine rw_iinc 106 [(0, .ref t0), (1, .int v1), (2, .int (v2 + 1))] dX7_findClashes_106 2 rfl rfl (by decide) rfl ?_
          refine rw_goto 109 63 dX7_findClashes_109 (by decide) ?_
          exact ih (v2 + 1) μ4 h
set_option maxRecDepth 100000 in
theorem wX7_findClashes_41 {Rf : Nat → Nat → Option Nat} {nn : Nat} (t0 : Nat) (ht0 : okX7 Rf nn t0)    (K : Mem → Option (Mem)) {res : Mem} (hK : ∀  (μ : Mem), K μ = some res → RW mX7_findClashes 2 nn nn 118 [(0, .ref t0)] [] (μ, Rf, nn) (QN none res Rf nn)) : ∀ (n9 : Nat) (v1 : Int32) (μ : Mem), fX7_findClashes_41 t0 K n9 v1 μ = some res → RW mX7_findClashes 2 nn nn 41 [(0, .ref t0), (1, .int v1)] [] (μ, Rf, nn) (QN none res Rf nn) := by
  intro n9
  induction n9 with
  | zero => intro _ _ h; cases h
  | succ n ih =>
    intro v1 μ h
    unfold fX7_findClashes_41 at h
    refine rw_iload_n 41 dX7_findClashes_41 1 rfl ?_
    refine rw_aload_n 42 dX7_findClashes_42 0 rfl ?_
    refine rw_getI 43 7 3 kc7 dX7_findClashes_43 (o7l ht0) (o7n ht0) fX7_22 rfl ?_
    refine rn_icmp_ge 46 118 dX7_findClashes_46 (by decide) h (fun _ h => ?_) (fun _ h => ?_)
    · refine rw_pick 118 [0] rfl ?_
      exact hK μ h
    · refine rw_aload_n 49 dX7_findClashes_49 0 rfl ?_
      refine rw_getR 50 7 11 kc7 dX7_findClashes_50 (o7l ht0) (o7n ht0) fX7_50 rfl (o7r11 ht0) ?_
      refine rw_iload_n 53 dX7_findClashes_53 1 rfl ?_
      refine rw_aload_n 54 dX7_findClashes_54 0 rfl ?_
      refine rw_getR 55 7 14 kc7 dX7_findClashes_55 (o7l ht0) (o7n ht0) fX7_61 rfl (o7r14 ht0) ?_
      refine rw_iload_n 58 dX7_findClashes_58 1 rfl ?_
      refine rn_iald 59 dX7_findClashes_59 (o7l14 ht0) (o7n14 ht0) h (fun h => ?_)
      refine rn_iast 60 dX7_findClashes_60 (o7l11 ht0) (o7n11 ht0) h (fun μ3 h => ?_)
      refine rw_iconst 61 (v := 0) dX7_findClashes_61 (by decide) ?_
      refine rw_istore_n 62 [(0, .ref t0), (1, .int v1), (2, .int 0)] dX7_findClashes_62 (by decide) rfl ?_
      refine wX7_findClashes_63 t0 ht0 v1 _ (fun μ5 h => ?_) FU 0 μ3 h
      refine rw_iinc 112 [(0, .ref t0), (1, .int (v1 + 1))] dX7_findClashes_112 1 rfl rfl (by decide) rfl ?_
      refine rw_goto 115 41 dX7_findClashes_115 (by decide) ?_
      exact ih (v1 + 1) μ5 h
set_option maxRecDepth 100000 in
theorem wX7_findClashes_120 {Rf : Nat → Nat → Option Nat} {nn : Nat} (t0 : Nat) (ht0 : okX7 Rf nn t0)    (K : Mem → Option (Mem)) {res : Mem} (hK : ∀  (μ : Mem), K μ = some res → RW mX7_findClashes 2 nn nn 147 [] [] (μ, Rf, nn) (QN none res Rf nn)) : ∀ (n9 : Nat) (v1 : Int32) (μ : Mem), fX7_findClashes_120 t0 K n9 v1 μ = some res → RW mX7_findClashes 2 nn nn 120 [(0, .ref t0), (1, .int v1)] [] (μ, Rf, nn) (QN none res Rf nn) := by
  intro n9
  induction n9 with
  | zero => intro _ _ h; cases h
  | succ n ih =>
    intro v1 μ h
    unfold fX7_findClashes_120 at h
    refine rw_iload_n 120 dX7_findClashes_120 1 rfl ?_
    refine rw_iconst 121 (v := 1) dX7_findClashes_121 (by decide) ?_
    refine rw_aload_n 122 dX7_findClashes_122 0 rfl ?_
    refine rw_getI 123 7 3 kc7 dX7_findClashes_123 (o7l ht0) (o7n ht0) fX7_22 rfl ?_
    refine rw_ishl 126 dX7_findClashes_126 ?_
    refine rn_icmp_ge 127 147 dX7_findClashes_127 (by decide) h (fun _ h => ?_) (fun _ h => ?_)
    · refine rw_pick 147 [] rfl ?_
      exact hK μ h
    · refine rw_aload_n 130 dX7_findClashes_130 0 rfl ?_
      refine rw_getR 131 7 13 kc7 dX7_findClashes_131 (o7l ht0) (o7n ht0) fX7_57 rfl (o7r13 ht0) ?_
      refine rw_iload_n 134 dX7_findClashes_134 1 rfl ?_
      refine rw_aload_n 135 dX7_findClashes_135 0 rfl ?_
      refine rw_iload_n 136 dX7_findClashes_136 1 rfl ?_
      refine rn_cVpb 137 7 [.int v1] dX7_findClashes_137 caX7_isPeaceful lX7_81 inX7_isPeaceful slX7_isPeaceful rfl (o7l ht0) ⟨_, rfl, rfl⟩ (o7n ht0) naX7_isPeaceful (Nat.le_of_ble_eq_true rfl) (Nat.le_of_ble_eq_true rfl) (by decide) (fun _ hq => wX7_isPeaceful t0 ht0 v1 μ hq) h (fun q7 h => ?_)
      refine rn_zast 140 dX7_findClashes_140 (o7l13 ht0) (o7n13 ht0) h (fun μ8 h => ?_)
      refine rw_iinc 141 [(0, .ref t0), (1, .int (v1 + 1))] dX7_findClashes_141 1 rfl rfl (by decide) rfl ?_
      refine rw_goto 144 120 dX7_findClashes_144 (by decide) ?_
      exact ih (v1 + 1) μ8 h
set_option maxRecDepth 100000 in
theorem wX7_findClashes {Rf : Nat → Nat → Option Nat} {nn : Nat} (t0 : Nat) (ht0 : okX7 Rf nn t0) (μ : Mem) {res : Mem} (h : fX7_findClashes t0 μ = some res) : Ct mX7_findClashes 2 nn nn [.ref t0] (μ, Rf, nn) (QN none res Rf nn) := by
  unfold fX7_findClashes at h
  show RW mX7_findClashes 2 nn nn 0 [(0, .ref t0)] [] (μ, Rf, nn) (QN none res Rf nn)
  refine rw_iconst 0 (v := 0) dX7_findClashes_0 (by decide) ?_
  refine rw_istore_n 1 [(0, .ref t0), (1, .int 0)] dX7_findClashes_1 (by decide) rfl ?_
  refine wX7_findClashes_2 t0 ht0 _ (fun μ2 h => ?_) FU 0 μ h
  refine rw_iconst 39 (v := 0) dX7_findClashes_39 (by decide) ?_
  refine rw_istore_n 40 [(0, .ref t0), (1, .int 0)] dX7_findClashes_40 (by decide) rfl ?_
  refine wX7_findClashes_41 t0 ht0 _ (fun μ6 h => ?_) FU 0 μ2 h
  refine rw_iconst 118 (v := 0) dX7_findClashes_118 (by decide) ?_
  refine rw_istore_n 119 [(0, .ref t0), (1, .int 0)] dX7_findClashes_119 (by decide) rfl ?_
  refine wX7_findClashes_120 t0 ht0 _ (fun μ9 h => ?_) FU 0 μ6 h
  exact rn_vret 147 dX7_findClashes_147 rfl h
def fX6_hasRoomFor (a1 : Int32) (μ : Mem) : Option (Bool) :=
  if 2000 < ((μ.1 1 1) + a1) then
    some false
  else
    some true
set_option maxRecDepth 100000 in
theorem wX6_hasRoomFor (a1 : Int32) (μ : Mem) {res : Bool} (h : fX6_hasRoomFor a1 μ = some res) : Ct mX6_hasRoomFor 1 NF NF [.ref 1, .int a1] (μ, Rf0, NF) (QN (some (.int (b2i res))) μ Rf0 NF) := by
  unfold fX6_hasRoomFor at h
  show RW mX6_hasRoomFor 1 NF NF 0 [(0, .ref 1), (1, .int a1)] [] (μ, Rf0, NF) (QN (some (.int (b2i res))) μ Rf0 NF)
  refine rw_aload_n 0 dX6_hasRoomFor_0 0 rfl ?_
  refine rw_getI 1 6 1 kc6 dX6_hasRoomFor_1 ly_1 rln_1 fX6_15 rfl ?_
  refine rw_iload_n 4 dX6_hasRoomFor_4 1 rfl ?_
  refine rw_iadd 5 dX6_hasRoomFor_5 ?_
  refine rw_sipush 6 (v := 2000) dX6_hasRoomFor_6 (by decide) ?_
  refine rn_icmp_gt 9 16 dX6_hasRoomFor_9 (by decide) h (fun _ h => ?_) (fun _ h => ?_)
  · refine rw_iconst 16 (v := 0) dX6_hasRoomFor_16 (by decide) ?_
    exact rn_zret 17 (v := false) dX6_hasRoomFor_17 rfl h
  · refine rw_iconst 12 (v := 1) dX6_hasRoomFor_12 (by decide) ?_
    refine rw_goto 13 17 dX6_hasRoomFor_13 (by decide) ?_
    exact rn_zret 17 (v := true) dX6_hasRoomFor_17 rfl h
def fX6_addFour_3   (v1 : Int32)  (K : Mem → Option (Mem)) : Nat → Int32 → Mem → Option (Mem)
  | 0, _, _ => none
  | n + 1, v2, μ =>
    if v2 < 0 then
      K μ
    else
      if (μ.1 1 1) < 2000 then
        if inb (μ.1 1 1) 2000 then nm (wI μ 2 (μ.1 1 1).toNatClampNeg (v1 >>> (v2 &&& 31)).toInt8.toInt32.toInt8.toInt32) fun μ1 =>
        nm (wI μ1 1 1 ((μ1.1 1 1) + 1)) fun μ2 =>
        fX6_addFour_3 v1 K n (v2 + (-8)) μ2
        else none
      else
        fX6_addFour_3 v1 K n (v2 + (-8)) μ
def fX6_addFour (a1 : Int32) (μ : Mem) : Option (Mem) :=
  fX6_addFour_3 a1 (fun μ3 =>
      some μ3
  ) FU 24 μ
set_option maxRecDepth 100000 in
theorem wX6_addFour_3   (v1 : Int32)  (K : Mem → Option (Mem)) {res : Mem} (hK : ∀  (μ : Mem), K μ = some res → RW mX6_addFour 1 NF NF 46 [] [] (μ, Rf0, NF) (QN none res Rf0 NF)) : ∀ (n9 : Nat) (v2 : Int32) (μ : Mem), fX6_addFour_3 v1 K n9 v2 μ = some res → RW mX6_addFour 1 NF NF 3 [(0, .ref 1), (1, .int v1), (2, .int v2)] [] (μ, Rf0, NF) (QN none res Rf0 NF) := by
  intro n9
  induction n9 with
  | zero => intro _ _ h; cases h
  | succ n ih =>
    intro v2 μ h
    unfold fX6_addFour_3 at h
    refine rw_iload_n 3 dX6_addFour_3 2 rfl ?_
    refine rn_if_lt 4 46 dX6_addFour_4 (by decide) h (fun _ h => ?_) (fun _ h => ?_)
    · refine rw_pick 46 [] rfl ?_
      exact hK μ h
    · refine rw_aload_n 7 dX6_addFour_7 0 rfl ?_
      refine rw_getI 8 6 1 kc6 dX6_addFour_8 ly_1 rln_1 fX6_15 rfl ?_
      refine rw_sipush 11 (v := 2000) dX6_addFour_11 (by decide) ?_
      refine rn_icmp_ge 14 40 dX6_addFour_14 (by decide) h (fun _ h => ?_) (fun _ h => ?_)
      · refine rw_iinc 40 [(0, .ref 1), (1, .int v1), (2, .int (v2 + (-8)))] dX6_addFour_40 2 rfl rfl (by decide) rfl ?_
        refine rw_goto 43 3 dX6_addFour_43 (by decide) ?_
        exact ih (v2 + (-8)) μ h
      · refine rw_aload_n 17 dX6_addFour_17 0 rfl ?_
        refine rw_getR 18 6 0 kc6 dX6_addFour_18 ly_1 rln_1 fX6_9 rfl rf_1_0 ?_
        refine rw_aload_n 21 dX6_addFour_21 0 rfl ?_
        refine rw_getI 22 6 1 kc6 dX6_addFour_22 ly_1 rln_1 fX6_15 rfl ?_
        refine rw_iload_n 25 dX6_addFour_25 1 rfl ?_
        refine rw_iload_n 26 dX6_addFour_26 2 rfl ?_
        refine rw_ishr 27 dX6_addFour_27 ?_
        refine rw_i2b 28 dX6_addFour_28 ?_
        refine rn_bast 29 dX6_addFour_29 ly_2 rln_2 h (fun μ1 h => ?_)
        refine rw_aload_n 30 dX6_addFour_30 0 rfl ?_
        refine rw_dup 31 dX6_addFour_31 rfl ?_
        refine rw_getI 32 6 1 kc6 dX6_addFour_32 ly_1 rln_1 fX6_15 rfl ?_
        refine rw_iconst 35 (v := 1) dX6_addFour_35 (by decide) ?_
        refine rw_iadd 36 dX6_addFour_36 ?_
        refine rn_putI 37 6 1 kc6 dX6_addFour_37 ly_1 rln_1 fX6_15 (fun q hq => by cases hq; rfl) rfl rfl rfl h (fun μ2 h => ?_)
        refine rw_iinc 40 [(0, .ref 1), (1, .int v1), (2, .int (v2 + (-8)))] dX6_addFour_40 2 rfl rfl (by decide) rfl ?_
        refine rw_goto 43 3 dX6_addFour_43 (by decide) ?_
        exact ih (v2 + (-8)) μ2 h
set_option maxRecDepth 100000 in
theorem wX6_addFour (a1 : Int32) (μ : Mem) {res : Mem} (h : fX6_addFour a1 μ = some res) : Ct mX6_addFour 1 NF NF [.ref 1, .int a1] (μ, Rf0, NF) (QN none res Rf0 NF) := by
  unfold fX6_addFour at h
  show RW mX6_addFour 1 NF NF 0 [(0, .ref 1), (1, .int a1)] [] (μ, Rf0, NF) (QN none res Rf0 NF)
  refine rw_bipush 0 (v := 24) dX6_addFour_0 (by decide) ?_
  refine rw_istore_n 2 [(0, .ref 1), (1, .int a1), (2, .int 24)] dX6_addFour_2 (by decide) rfl ?_
  refine wX6_addFour_3 a1 _ (fun μ3 h => ?_) FU 24 μ h
  exact rn_vret 46 dX6_addFour_46 rfl h
def fX10_feed (a1 : Int32) (a2 : Int32) (a3 : Int32) (a4 : Int32) (a5 : Int32) (μ : Mem) : Option (Int32 × Mem) :=
  (fX6_hasRoomFor 20 μ).bind fun q1 =>
  if q1 = true then
    (fX6_addFour a1 μ).bind fun q2 =>
    (fX6_addFour a2 q2).bind fun q3 =>
    (fX6_addFour a3 q3).bind fun q4 =>
    (fX6_addFour a4 q4).bind fun q5 =>
    (fX6_addFour a5 q5).bind fun q6 =>
    some ((q6.1 1 1), q6)
  else
    some ((-1), μ)
set_option maxRecDepth 100000 in
theorem wX10_feed (a1 : Int32) (a2 : Int32) (a3 : Int32) (a4 : Int32) (a5 : Int32) (μ : Mem) {res : Int32 × Mem} (h : fX10_feed a1 a2 a3 a4 a5 μ = some res) : Ct mX10_feed 2 NF NF [.ref 0, .int a1, .int a2, .int a3, .int a4, .int a5] (μ, Rf0, NF) (QN (some (.int res.1)) res.2 Rf0 NF) := by
  unfold fX10_feed at h
  show RW mX10_feed 2 NF NF 0 [(0, .ref 0), (1, .int a1), (2, .int a2), (3, .int a3), (4, .int a4), (5, .int a5)] [] (μ, Rf0, NF) (QN (some (.int res.1)) res.2 Rf0 NF)
  refine rw_aload_n 0 dX10_feed_0 0 rfl ?_
  refine rw_getR 1 10 0 kc10 dX10_feed_1 ly_0 rln_0 fX10_12 rfl rf_0_0 ?_
  refine rw_bipush 4 (v := 20) dX10_feed_4 (by decide) ?_
  refine rn_cVpb 6 6 [.int 20] dX10_feed_6 caX6_hasRoomFor lX10_79 inX6_hasRoomFor slX6_hasRoomFor rfl ly_1 ⟨_, rfl, rfl⟩ rln_1 naX6_hasRoomFor (Nat.le_of_ble_eq_true rfl) (Nat.le_of_ble_eq_true rfl) (by decide) (fun _ hq => wX6_hasRoomFor 20 μ hq) h (fun q1 h => ?_)
  refine rn_ifb_ne 9 14 dX10_feed_9 (by decide) h (fun _ h => ?_) (fun _ h => ?_)
  · refine rw_aload_n 14 dX10_feed_14 0 rfl ?_
    refine rw_getR 15 10 0 kc10 dX10_feed_15 ly_0 rln_0 fX10_12 rfl rf_0_0 ?_
    refine rw_iload_n 18 dX10_feed_18 1 rfl ?_
    refine rn_cVmv 19 6 [.int a1] dX10_feed_19 caX6_addFour lX10_83 inX6_addFour slX6_addFour rfl ly_1 ⟨_, rfl, rfl⟩ rln_1 naX6_addFour (Nat.le_of_ble_eq_true rfl) (Nat.le_of_ble_eq_true rfl) (by decide) (fun _ hq => wX6_addFour a1 μ hq) h (fun q2 h => ?_)
    refine rw_aload_n 22 dX10_feed_22 0 rfl ?_
    refine rw_getR 23 10 0 kc10 dX10_feed_23 ly_0 rln_0 fX10_12 rfl rf_0_0 ?_
    refine rw_iload_n 26 dX10_feed_26 2 rfl ?_
    refine rn_cVmv 27 6 [.int a2] dX10_feed_27 caX6_addFour lX10_83 inX6_addFour slX6_addFour rfl ly_1 ⟨_, rfl, rfl⟩ rln_1 naX6_addFour (Nat.le_of_ble_eq_true rfl) (Nat.le_of_ble_eq_true rfl) (by decide) (fun _ hq => wX6_addFour a2 q2 hq) h (fun q3 h => ?_)
    refine rw_aload_n 30 dX10_feed_30 0 rfl ?_
    refine rw_getR 31 10 0 kc10 dX10_feed_31 ly_0 rln_0 fX10_12 rfl rf_0_0 ?_
    refine rw_iload_n 34 dX10_feed_34 3 rfl ?_
    refine rn_cVmv 35 6 [.int a3] dX10_feed_35 caX6_addFour lX10_83 inX6_addFour slX6_addFour rfl ly_1 ⟨_, rfl, rfl⟩ rln_1 naX6_addFour (Nat.le_of_ble_eq_true rfl) (Nat.le_of_ble_eq_true rfl) (by decide) (fun _ hq => wX6_addFour a3 q3 hq) h (fun q4 h => ?_)
    refine rw_aload_n 38 dX10_feed_38 0 rfl ?_
    refine rw_getR 39 10 0 kc10 dX10_feed_39 ly_0 rln_0 fX10_12 rfl rf_0_0 ?_
    refine rw_iload 42 dX10_feed_42 4 rfl ?_
    refine rn_cVmv 44 6 [.int a4] dX10_feed_44 caX6_addFour lX10_83 inX6_addFour slX6_addFour rfl ly_1 ⟨_, rfl, rfl⟩ rln_1 naX6_addFour (Nat.le_of_ble_eq_true rfl) (Nat.le_of_ble_eq_true rfl) (by decide) (fun _ hq => wX6_addFour a4 q4 hq) h (fun q5 h => ?_)
    refine rw_aload_n 47 dX10_feed_47 0 rfl ?_
    refine rw_getR 48 10 0 kc10 dX10_feed_48 ly_0 rln_0 fX10_12 rfl rf_0_0 ?_
    refine rw_iload 51 dX10_feed_51 5 rfl ?_
    refine rn_cVmv 53 6 [.int a5] dX10_feed_53 caX6_addFour lX10_83 inX6_addFour slX6_addFour rfl ly_1 ⟨_, rfl, rfl⟩ rln_1 naX6_addFour (Nat.le_of_ble_eq_true rfl) (Nat.le_of_ble_eq_true rfl) (by decide) (fun _ hq => wX6_addFour a5 q5 hq) h (fun q6 h => ?_)
    refine rw_aload_n 56 dX10_feed_56 0 rfl ?_
    refine rw_getR 57 10 0 kc10 dX10_feed_57 ly_0 rln_0 fX10_12 rfl rf_0_0 ?_
    refine rw_getI 60 6 1 kc6 dX10_feed_60 ly_1 rln_1 fX10_87 rfl ?_
    exact rn_iret2 63 dX10_feed_63 rfl h
  · refine rw_iconst 12 (v := -1) dX10_feed_12 (by decide) ?_
    exact rn_iret2 13 dX10_feed_13 rfl h
def fX10_back (a1 : Int32) (μ : Mem) : Option (Int32 × Mem) :=
  if a1 < 0 then
    some ((-1), μ)
  else
    if (μ.1 1 1) < a1 then
      some ((-1), μ)
    else
      nm (wI μ 1 1 ((μ.1 1 1) - a1)) fun μ1 =>
      some ((μ1.1 1 1), μ1)
set_option maxRecDepth 100000 in
theorem wX10_back (a1 : Int32) (μ : Mem) {res : Int32 × Mem} (h : fX10_back a1 μ = some res) : Ct mX10_back 1 NF NF [.ref 0, .int a1] (μ, Rf0, NF) (QN (some (.int res.1)) res.2 Rf0 NF) := by
  unfold fX10_back at h
  show RW mX10_back 1 NF NF 0 [(0, .ref 0), (1, .int a1)] [] (μ, Rf0, NF) (QN (some (.int res.1)) res.2 Rf0 NF)
  refine rw_iload_n 0 dX10_back_0 1 rfl ?_
  refine rn_if_lt 1 15 dX10_back_1 (by decide) h (fun _ h => ?_) (fun _ h => ?_)
  · refine rw_iconst 15 (v := -1) dX10_back_15 (by decide) ?_
    exact rn_iret2 16 dX10_back_16 rfl h
  · refine rw_iload_n 4 dX10_back_4 1 rfl ?_
    refine rw_aload_n 5 dX10_back_5 0 rfl ?_
    refine rw_getR 6 10 0 kc10 dX10_back_6 ly_0 rln_0 fX10_12 rfl rf_0_0 ?_
    refine rw_getI 9 6 1 kc6 dX10_back_9 ly_1 rln_1 fX10_87 rfl ?_
    refine rn_icmp_le 12 17 dX10_back_12 (by decide) h (fun _ h => ?_) (fun _ h => ?_)
    · refine rw_aload_n 17 dX10_back_17 0 rfl ?_
      refine rw_getR 18 10 0 kc10 dX10_back_18 ly_0 rln_0 fX10_12 rfl rf_0_0 ?_
      refine rw_dup 21 dX10_back_21 rfl ?_
      refine rw_getI 22 6 1 kc6 dX10_back_22 ly_1 rln_1 fX10_87 rfl ?_
      refine rw_iload_n 25 dX10_back_25 1 rfl ?_
      refine rw_isub 26 dX10_back_26 ?_
      refine rn_putI 27 6 1 kc6 dX10_back_27 ly_1 rln_1 fX10_87 (fun q hq => by cases hq; rfl) rfl rfl rfl h (fun μ1 h => ?_)
      refine rw_aload_n 30 dX10_back_30 0 rfl ?_
      refine rw_getR 31 10 0 kc10 dX10_back_31 ly_0 rln_0 fX10_12 rfl rf_0_0 ?_
      refine rw_getI 34 6 1 kc6 dX10_back_34 ly_1 rln_1 fX10_87 rfl ?_
      exact rn_iret2 37 dX10_back_37 rfl h
    · refine rw_iconst 15 (v := -1) dX10_back_15 (by decide) ?_
      exact rn_iret2 16 dX10_back_16 rfl h
def fX8_isBlank (a0 : Int32) (μ : Mem) : Option (Bool) :=
  if a0 = 9 then
    some true
  else
    if a0 = 10 then
      some true
    else
      if a0 = 13 then
        some true
      else
        if a0 = 32 then
          some true
        else
          some false
set_option maxRecDepth 100000 in
theorem wX8_isBlank (a0 : Int32) (μ : Mem) {res : Bool} (h : fX8_isBlank a0 μ = some res) : Ct mX8_isBlank 1 NF NF [.int a0] (μ, Rf0, NF) (QN (some (.int (b2i res))) μ Rf0 NF) := by
  unfold fX8_isBlank at h
  show RW mX8_isBlank 1 NF NF 0 [(0, .int a0)] [] (μ, Rf0, NF) (QN (some (.int (b2i res))) μ Rf0 NF)
  refine rw_iload_n 0 dX8_isBlank_0 0 rfl ?_
  refine rw_bipush 1 (v := 9) dX8_isBlank_1 (by decide) ?_
  refine rn_icmp_eq 3 24 dX8_isBlank_3 (by decide) h (fun _ h => ?_) (fun _ h => ?_)
  · refine rw_iconst 24 (v := 1) dX8_isBlank_24 (by decide) ?_
    refine rw_goto 25 29 dX8_isBlank_25 (by decide) ?_
    exact rn_zret 29 (v := true) dX8_isBlank_29 rfl h
  · refine rw_iload_n 6 dX8_isBlank_6 0 rfl ?_
    refine rw_bipush 7 (v := 10) dX8_isBlank_7 (by decide) ?_
    refine rn_icmp_eq 9 24 dX8_isBlank_9 (by decide) h (fun _ h => ?_) (fun _ h => ?_)
    · refine rw_iconst 24 (v := 1) dX8_isBlank_24 (by decide) ?_
      refine rw_goto 25 29 dX8_isBlank_25 (by decide) ?_
      exact rn_zret 29 (v := true) dX8_isBlank_29 rfl h
    · refine rw_iload_n 12 dX8_isBlank_12 0 rfl ?_
      refine rw_bipush 13 (v := 13) dX8_isBlank_13 (by decide) ?_
      refine rn_icmp_eq 15 24 dX8_isBlank_15 (by decide) h (fun _ h => ?_) (fun _ h => ?_)
      · refine rw_iconst 24 (v := 1) dX8_isBlank_24 (by decide) ?_
        refine rw_goto 25 29 dX8_isBlank_25 (by decide) ?_
        exact rn_zret 29 (v := true) dX8_isBlank_29 rfl h
      · refine rw_iload_n 18 dX8_isBlank_18 0 rfl ?_
        refine rw_bipush 19 (v := 32) dX8_isBlank_19 (by decide) ?_
        refine rn_icmp_ne 21 28 dX8_isBlank_21 (by decide) h (fun _ h => ?_) (fun _ h => ?_)
        · refine rw_iconst 28 (v := 0) dX8_isBlank_28 (by decide) ?_
          exact rn_zret 29 (v := false) dX8_isBlank_29 rfl h
        · refine rw_iconst 24 (v := 1) dX8_isBlank_24 (by decide) ?_
          refine rw_goto 25 29 dX8_isBlank_25 (by decide) ?_
          exact rn_zret 29 (v := true) dX8_isBlank_29 rfl h
def fX8_behindBlanks_2    (μ : Mem) (K : Int32 → Option (Int32)) : Nat → Int32 → Option (Int32)
  | 0, _ => none
  | n + 1, v3 =>
    if v3 < (μ.1 1 1) then
      if inb v3 2000 then
      (fX8_isBlank (μ.1 2 v3.toNatClampNeg) μ).bind fun q1 =>
      if q1 = true then
        fX8_behindBlanks_2 μ K n (v3 + 1)
      else
        K v3
      else none
    else
      K v3
def fX8_behindBlanks (a2 : Int32) (μ : Mem) : Option (Int32) :=
  fX8_behindBlanks_2 μ (fun y2 =>
      some y2
  ) FU a2
set_option maxRecDepth 100000 in
theorem wX8_behindBlanks_2    (μ : Mem) (K : Int32 → Option (Int32)) {res : Int32} (hK : ∀ (v3 : Int32), K v3 = some res → RW mX8_behindBlanks 2 NF NF 28 [(3, .int v3)] [] (μ, Rf0, NF) (QN (some (.int res)) μ Rf0 NF)) : ∀ (n9 : Nat) (v3 : Int32), fX8_behindBlanks_2 μ K n9 v3 = some res → RW mX8_behindBlanks 2 NF NF 2 [(1, .ref 1), (3, .int v3)] [] (μ, Rf0, NF) (QN (some (.int res)) μ Rf0 NF) := by
  intro n9
  induction n9 with
  | zero => intro _ h; cases h
  | succ n ih =>
    intro v3 h
    unfold fX8_behindBlanks_2 at h
    refine rw_iload_n 2 dX8_behindBlanks_2 1 rfl ?_
    refine rw_aload_n 3 dX8_behindBlanks_3 0 rfl ?_
    refine rw_getI 4 6 1 kc6 dX8_behindBlanks_4 ly_1 rln_1 fX8_45 rfl ?_
    refine rn_icmp_ge 7 28 dX8_behindBlanks_7 (by decide) h (fun _ h => ?_) (fun _ h => ?_)
    · refine rw_pick 28 [1] rfl ?_
      exact hK v3 h
    · refine rw_aload_n 10 dX8_behindBlanks_10 0 rfl ?_
      refine rw_getR 11 6 0 kc6 dX8_behindBlanks_11 ly_1 rln_1 fX8_56 rfl rf_1_0 ?_
      refine rw_iload_n 14 dX8_behindBlanks_14 1 rfl ?_
      refine rn_bald 15 dX8_behindBlanks_15 ly_2 rln_2 h (fun h => ?_)
      refine rn_cSpb 16 [.int (μ.1 2 v3.toNatClampNeg)] dX8_behindBlanks_16 caX8_isBlank lX8_60 stX8_isBlank rfl naX8_isBlank (Nat.le_of_ble_eq_true rfl) (Nat.le_of_ble_eq_true rfl) (by decide) (fun _ hq => wX8_isBlank (μ.1 2 v3.toNatClampNeg) μ hq) h (fun q1 h => ?_)
      refine rn_ifb_eq 19 28 dX8_behindBlanks_19 (by decide) h (fun _ h => ?_) (fun _ h => ?_)
      · refine rw_pick 28 [1] rfl ?_
        exact hK v3 h
      · refine rw_iinc 22 [(1, .ref 1), (3, .int (v3 + 1))] dX8_behindBlanks_22 1 rfl rfl (by decide) rfl ?_
        refine rw_goto 25 2 dX8_behindBlanks_25 (by decide) ?_
        exact ih (v3 + 1) h
set_option maxRecDepth 100000 in
theorem wX8_behindBlanks (a2 : Int32) (μ : Mem) {res : Int32} (h : fX8_behindBlanks a2 μ = some res) : Ct mX8_behindBlanks 2 NF NF [.ref 4, .ref 1, .int a2] (μ, Rf0, NF) (QN (some (.int res)) μ Rf0 NF) := by
  unfold fX8_behindBlanks at h
  show RW mX8_behindBlanks 2 NF NF 0 [(0, .ref 4), (1, .ref 1), (2, .int a2)] [] (μ, Rf0, NF) (QN (some (.int res)) μ Rf0 NF)
  refine rw_iload_n 0 dX8_behindBlanks_0 2 rfl ?_
  refine rw_istore_n 1 [(0, .ref 4), (1, .ref 1), (2, .int a2), (3, .int a2)] dX8_behindBlanks_1 (by decide) rfl ?_
  refine rw_pick 2 [1, 3] rfl ?_
  refine wX8_behindBlanks_2 μ _ (fun y2 h => ?_) FU a2 h
  refine rw_iload_n 28 dX8_behindBlanks_28 0 rfl ?_
  exact rn_iret 29 dX8_behindBlanks_29 rfl h
def fX8_isLetter (a0 : Int32) (μ : Mem) : Option (Bool) :=
  if a0 < 97 then
    some false
  else
    if 122 < a0 then
      some false
    else
      some true
set_option maxRecDepth 100000 in
theorem wX8_isLetter (a0 : Int32) (μ : Mem) {res : Bool} (h : fX8_isLetter a0 μ = some res) : Ct mX8_isLetter 1 NF NF [.int a0] (μ, Rf0, NF) (QN (some (.int (b2i res))) μ Rf0 NF) := by
  unfold fX8_isLetter at h
  show RW mX8_isLetter 1 NF NF 0 [(0, .int a0)] [] (μ, Rf0, NF) (QN (some (.int (b2i res))) μ Rf0 NF)
  refine rw_iload_n 0 dX8_isLetter_0 0 rfl ?_
  refine rw_bipush 1 (v := 97) dX8_isLetter_1 (by decide) ?_
  refine rn_icmp_lt 3 16 dX8_isLetter_3 (by decide) h (fun _ h => ?_) (fun _ h => ?_)
  · refine rw_iconst 16 (v := 0) dX8_isLetter_16 (by decide) ?_
    exact rn_zret 17 (v := false) dX8_isLetter_17 rfl h
  · refine rw_iload_n 6 dX8_isLetter_6 0 rfl ?_
    refine rw_bipush 7 (v := 122) dX8_isLetter_7 (by decide) ?_
    refine rn_icmp_gt 9 16 dX8_isLetter_9 (by decide) h (fun _ h => ?_) (fun _ h => ?_)
    · refine rw_iconst 16 (v := 0) dX8_isLetter_16 (by decide) ?_
      exact rn_zret 17 (v := false) dX8_isLetter_17 rfl h
    · refine rw_iconst 12 (v := 1) dX8_isLetter_12 (by decide) ?_
      refine rw_goto 13 17 dX8_isLetter_13 (by decide) ?_
      exact rn_zret 17 (v := true) dX8_isLetter_17 rfl h
def fX8_kindOf_2   (v1 : Int64) (μ : Mem) (K : Unit → Option (Int32)) : Nat → Int32 → Option (Int32)
  | 0, _ => none
  | n + 1, v3 =>
    if v3 < 21 then
      if inb v3 21 then
      if (μ.2 8 v3.toNatClampNeg) = v1 then
        some (13 + v3)
      else
        fX8_kindOf_2 v1 μ K n (v3 + 1)
      else none
    else
      K ()
def fX8_kindOf (a1 : Int64) (μ : Mem) : Option (Int32) :=
  fX8_kindOf_2 a1 μ (fun _ =>
      some 2
  ) FU 0
set_option maxRecDepth 100000 in
theorem wX8_kindOf_2   (v1 : Int64) (μ : Mem) (K : Unit → Option (Int32)) {res : Int32} (hK : ∀ (_ : Unit), K () = some res → RW mX8_kindOf 1 NF NF 30 [] [] (μ, Rf0, NF) (QN (some (.int res)) μ Rf0 NF)) : ∀ (n9 : Nat) (v3 : Int32), fX8_kindOf_2 v1 μ K n9 v3 = some res → RW mX8_kindOf 1 NF NF 2 [(0, .ref 4), (1, .long v1), (3, .int v3)] [] (μ, Rf0, NF) (QN (some (.int res)) μ Rf0 NF) := by
  intro n9
  induction n9 with
  | zero => intro _ h; cases h
  | succ n ih =>
    intro v3 h
    unfold fX8_kindOf_2 at h
    refine rw_iload_n 2 dX8_kindOf_2 2 rfl ?_
    refine rw_bipush 3 (v := 21) dX8_kindOf_3 (by decide) ?_
    refine rn_icmp_ge 5 30 dX8_kindOf_5 (by decide) h (fun _ h => ?_) (fun _ h => ?_)
    · refine rw_pick 30 [] rfl ?_
      exact hK () h
    · refine rw_aload_n 8 dX8_kindOf_8 0 rfl ?_
      refine rw_getR 9 8 3 kc8 dX8_kindOf_9 ly_4 rln_4 fX8_22 rfl rf_4_3 ?_
      refine rw_iload_n 12 dX8_kindOf_12 2 rfl ?_
      refine rn_lald 13 dX8_kindOf_13 ly_8 rln_8 h (fun h => ?_)
      refine rw_lload_n 14 dX8_kindOf_14 1 rfl ?_
      refine rn_lcmp_ne 15 24 dX8_kindOf_15 dX8_kindOf_16 (by decide) h (fun _ h => ?_) (fun _ h => ?_)
      · refine rw_iinc 24 [(0, .ref 4), (1, .long v1), (3, .int (v3 + 1))] dX8_kindOf_24 2 rfl rfl (by decide) rfl ?_
        refine rw_goto 27 2 dX8_kindOf_27 (by decide) ?_
        exact ih (v3 + 1) h
      · refine rw_bipush 19 (v := 13) dX8_kindOf_19 (by decide) ?_
        refine rw_iload_n 21 dX8_kindOf_21 2 rfl ?_
        refine rw_iadd 22 dX8_kindOf_22 ?_
        exact rn_iret 23 dX8_kindOf_23 rfl h
set_option maxRecDepth 100000 in
theorem wX8_kindOf (a1 : Int64) (μ : Mem) {res : Int32} (h : fX8_kindOf a1 μ = some res) : Ct mX8_kindOf 1 NF NF [.ref 4, .long a1] (μ, Rf0, NF) (QN (some (.int res)) μ Rf0 NF) := by
  unfold fX8_kindOf at h
  show RW mX8_kindOf 1 NF NF 0 [(0, .ref 4), (1, .long a1)] [] (μ, Rf0, NF) (QN (some (.int res)) μ Rf0 NF)
  refine rw_iconst 0 (v := 0) dX8_kindOf_0 (by decide) ?_
  refine rw_istore_n 1 [(0, .ref 4), (1, .long a1), (3, .int 0)] dX8_kindOf_1 (by decide) rfl ?_
  refine wX8_kindOf_2 a1 μ _ (fun _ h => ?_) FU 0 h
  refine rw_iconst 30 (v := 2) dX8_kindOf_30 (by decide) ?_
  exact rn_iret 31 dX8_kindOf_31 rfl h
def fX8_add (a1 : Int32) (a2 : Int32) (a3 : Int64) (μ : Mem) : Option (Mem) :=
  if (μ.1 4 4) < 402 then
    if inb (μ.1 4 4) 402 then nm (wI μ 5 (μ.1 4 4).toNatClampNeg a1) fun μ1 =>
    if inb (μ1.1 4 4) 402 then nm (wI μ1 6 (μ1.1 4 4).toNatClampNeg a2) fun μ2 =>
    if inb (μ2.1 4 4) 402 then nm (wJ μ2 7 (μ2.1 4 4).toNatClampNeg a3) fun μ3 =>
    nm (wI μ3 4 4 ((μ3.1 4 4) + 1)) fun μ4 =>
    some μ4
    else none
    else none
    else none
  else
    some μ
set_option maxRecDepth 100000 in
theorem wX8_add (a1 : Int32) (a2 : Int32) (a3 : Int64) (μ : Mem) {res : Mem} (h : fX8_add a1 a2 a3 μ = some res) : Ct mX8_add 1 NF NF [.ref 4, .int a1, .int a2, .long a3] (μ, Rf0, NF) (QN none res Rf0 NF) := by
  unfold fX8_add at h
  show RW mX8_add 1 NF NF 0 [(0, .ref 4), (1, .int a1), (2, .int a2), (3, .long a3)] [] (μ, Rf0, NF) (QN none res Rf0 NF)
  refine rw_aload_n 0 dX8_add_0 0 rfl ?_
  refine rw_getI 1 8 4 kc8 dX8_add_1 ly_4 rln_4 fX8_25 rfl ?_
  refine rw_aload_n 4 dX8_add_4 0 rfl ?_
  refine rw_getR 5 8 0 kc8 dX8_add_5 ly_4 rln_4 fX8_9 rfl rf_4_0 ?_
  refine rw_alen 8 (by decide) dX8_add_8 ly_5 rln_5 (v := 402) (by decide) ?_
  refine rn_icmp_ge 9 52 dX8_add_9 (by decide) h (fun _ h => ?_) (fun _ h => ?_)
  · exact rn_vret 52 dX8_add_52 rfl h
  · refine rw_aload_n 12 dX8_add_12 0 rfl ?_
    refine rw_getR 13 8 0 kc8 dX8_add_13 ly_4 rln_4 fX8_9 rfl rf_4_0 ?_
    refine rw_aload_n 16 dX8_add_16 0 rfl ?_
    refine rw_getI 17 8 4 kc8 dX8_add_17 ly_4 rln_4 fX8_25 rfl ?_
    refine rw_iload_n 20 dX8_add_20 1 rfl ?_
    refine rn_iast 21 dX8_add_21 ly_5 rln_5 h (fun μ1 h => ?_)
    refine rw_aload_n 22 dX8_add_22 0 rfl ?_
    refine rw_getR 23 8 1 kc8 dX8_add_23 ly_4 rln_4 fX8_15 rfl rf_4_1 ?_
    refine rw_aload_n 26 dX8_add_26 0 rfl ?_
    refine rw_getI 27 8 4 kc8 dX8_add_27 ly_4 rln_4 fX8_25 rfl ?_
    refine rw_iload_n 30 dX8_add_30 2 rfl ?_
    refine rn_iast 31 dX8_add_31 ly_6 rln_6 h (fun μ2 h => ?_)
    refine rw_aload_n 32 dX8_add_32 0 rfl ?_
    refine rw_getR 33 8 2 kc8 dX8_add_33 ly_4 rln_4 fX8_18 rfl rf_4_2 ?_
    refine rw_aload_n 36 dX8_add_36 0 rfl ?_
    refine rw_getI 37 8 4 kc8 dX8_add_37 ly_4 rln_4 fX8_25 rfl ?_
    refine rw_lload_n 40 dX8_add_40 3 rfl ?_
    refine rn_last 41 dX8_add_41 ly_7 rln_7 h (fun μ3 h => ?_)
    refine rw_aload_n 42 dX8_add_42 0 rfl ?_
    refine rw_dup 43 dX8_add_43 rfl ?_
    refine rw_getI 44 8 4 kc8 dX8_add_44 ly_4 rln_4 fX8_25 rfl ?_
    refine rw_iconst 47 (v := 1) dX8_add_47 (by decide) ?_
    refine rw_iadd 48 dX8_add_48 ?_
    refine rn_putI 49 8 4 kc8 dX8_add_49 ly_4 rln_4 fX8_25 (fun q hq => by cases hq; rfl) rfl rfl rfl h (fun μ4 h => ?_)
    exact rn_vret 52 dX8_add_52 rfl h
def fX8_cutLetters_5   (v2 : Int32) (μ : Mem) (K : Int32 → Int64 → Option (Int32 × Mem)) : Nat → Int32 → Int64 → Option (Int32 × Mem)
  | 0, _, _ => none
  | n + 1, v3, v4 =>
    if v3 < (μ.1 1 1) then
      if inb v3 2000 then
      (fX8_isLetter (μ.1 2 v3.toNatClampNeg) μ).bind fun q1 =>
      if q1 = true then
        if inb v3 2000 then
        nm ((lsh v4 5) ||| (((μ.1 2 v3.toNatClampNeg) - 97) + 1).toInt64) fun x2 =>
        fX8_cutLetters_5 v2 μ K n (v3 + 1) x2
        else none
      else
        K v3 v4
      else none
    else
      K v3 v4
def fX8_cutLetters_j50    (v2 : Int32) (v3 : Int32) (v4 : Int64) (μ : Mem) : Option (Int32 × Mem) :=
  if 8 < (v3 - v2) then
    (fX8_add 1 v2 v4 μ).bind fun q7 =>
    some (v3, q7)
  else
    (fX8_kindOf v4 μ).bind fun q5 =>
    (fX8_add q5 v2 v4 μ).bind fun q6 =>
    some (v3, q6)
def fX8_cutLetters (a2 : Int32) (μ : Mem) : Option (Int32 × Mem) :=
  fX8_cutLetters_5 a2 μ (fun y3 y4 =>
      fX8_cutLetters_j50 a2 y3 y4 μ
  ) FU a2 0
set_option maxRecDepth 100000 in
theorem wX8_cutLetters_5   (v2 : Int32) (μ : Mem) (K : Int32 → Int64 → Option (Int32 × Mem)) {res : Int32 × Mem} (hK : ∀ (v3 : Int32) (v4 : Int64), K v3 v4 = some res → RW mX8_cutLetters 2 NF NF 50 [(0, .ref 4), (2, .int v2), (3, .int v3), (4, .long v4)] [] (μ, Rf0, NF) (QN (some (.int res.1)) res.2 Rf0 NF)) : ∀ (n9 : Nat) (v3 : Int32) (v4 : Int64), fX8_cutLetters_5 v2 μ K n9 v3 v4 = some res → RW mX8_cutLetters 2 NF NF 5 [(0, .ref 4), (1, .ref 1), (2, .int v2), (3, .int v3), (4, .long v4)] [] (μ, Rf0, NF) (QN (some (.int res.1)) res.2 Rf0 NF) := by
  intro n9
  induction n9 with
  | zero => intro _ _ h; cases h
  | succ n ih =>
    intro v3 v4 h
    unfold fX8_cutLetters_5 at h
    refine rw_iload_n 5 dX8_cutLetters_5 3 rfl ?_
    refine rw_aload_n 6 dX8_cutLetters_6 1 rfl ?_
    refine rw_getI 7 6 1 kc6 dX8_cutLetters_7 ly_1 rln_1 fX8_45 rfl ?_
    refine rn_icmp_ge 10 50 dX8_cutLetters_10 (by decide) h (fun _ h => ?_) (fun _ h => ?_)
    · refine rw_pick 50 [0, 2, 3, 4] rfl ?_
      exact hK v3 v4 h
    · refine rw_aload_n 13 dX8_cutLetters_13 1 rfl ?_
      refine rw_getR 14 6 0 kc6 dX8_cutLetters_14 ly_1 rln_1 fX8_56 rfl rf_1_0 ?_
      refine rw_iload_n 17 dX8_cutLetters_17 3 rfl ?_
      refine rn_bald 18 dX8_cutLetters_18 ly_2 rln_2 h (fun h => ?_)
      refine rn_cSpb 19 [.int (μ.1 2 v3.toNatClampNeg)] dX8_cutLetters_19 caX8_isLetter lX8_64 stX8_isLetter rfl naX8_isLetter (Nat.le_of_ble_eq_true rfl) (Nat.le_of_ble_eq_true rfl) (by decide) (fun _ hq => wX8_isLetter (μ.1 2 v3.toNatClampNeg) μ hq) h (fun q1 h => ?_)
      refine rn_ifb_eq 22 50 dX8_cutLetters_22 (by decide) h (fun _ h => ?_) (fun _ h => ?_)
      · refine rw_pick 50 [0, 2, 3, 4] rfl ?_
        exact hK v3 v4 h
      · refine rw_lload 25 dX8_cutLetters_25 4 rfl ?_
        refine rw_iconst 27 (v := 5) dX8_cutLetters_27 (by decide) ?_
        refine rw_lshl 28 dX8_cutLetters_28 ?_
        refine rw_aload_n 29 dX8_cutLetters_29 1 rfl ?_
        refine rw_getR 30 6 0 kc6 dX8_cutLetters_30 ly_1 rln_1 fX8_56 rfl rf_1_0 ?_
        refine rw_iload_n 33 dX8_cutLetters_33 3 rfl ?_
        refine rn_bald 34 dX8_cutLetters_34 ly_2 rln_2 h (fun h => ?_)
        refine rw_bipush 35 (v := 97) dX8_cutLetters_35 (by decide) ?_
        refine rw_isub 37 dX8_cutLetters_37 ?_
        refine rw_iconst 38 (v := 1) dX8_cutLetters_38 (by decide) ?_
        refine rw_iadd 39 dX8_cutLetters_39 ?_
        refine rw_i2l 40 dX8_cutLetters_40 ?_
        refine rw_lor 41 dX8_cutLetters_41 ?_
        refine rn_lst 42 (fun x2 => [(0, .ref 4), (1, .ref 1), (2, .int v2), (3, .int v3), (4, .long x2)]) dX8_cutLetters_42 (by decide) (fun _ => rfl) h (fun x2 h => ?_)
        refine rw_iinc 44 [(0, .ref 4), (1, .ref 1), (2, .int v2), (3, .int (v3 + 1)), (4, .long x2)] dX8_cutLetters_44 3 rfl rfl (by decide) rfl ?_
        refine rw_goto 47 5 dX8_cutLetters_47 (by decide) ?_
        exact ih (v3 + 1) x2 h
set_option maxRecDepth 100000 in
theorem wX8_cutLetters_j50   {res : Int32 × Mem} (v2 : Int32) (v3 : Int32) (v4 : Int64) (μ : Mem)  (h : fX8_cutLetters_j50 v2 v3 v4 μ = some res) : RW mX8_cutLetters 2 NF NF 50 [(0, .ref 4), (2, .int v2), (3, .int v3), (4, .long v4)] [] (μ, Rf0, NF) (QN (some (.int res.1)) res.2 Rf0 NF) := by
  unfold fX8_cutLetters_j50 at h
  refine rw_aload_n 50 dX8_cutLetters_50 0 rfl ?_
  refine rw_iload_n 51 dX8_cutLetters_51 2 rfl ?_
  refine rw_iload_n 52 dX8_cutLetters_52 1 rfl ?_
  refine rw_isub 53 dX8_cutLetters_53 ?_
  refine rw_bipush 54 (v := 8) dX8_cutLetters_54 (by decide) ?_
  refine rn_icmp_le 56 63 dX8_cutLetters_56 (by decide) h (fun _ h => ?_) (fun _ h => ?_)
  · refine rw_aload_n 63 dX8_cutLetters_63 0 rfl ?_
    refine rw_lload 64 dX8_cutLetters_64 3 rfl ?_
    refine rn_cVpi 66 8 [.long v4] dX8_cutLetters_66 caX8_kindOf lX8_82 inX8_kindOf slX8_kindOf rfl ly_4 ⟨_, rfl, rfl⟩ rln_4 naX8_kindOf (Nat.le_of_ble_eq_true rfl) (Nat.le_of_ble_eq_true rfl) (by decide) (fun _ hq => wX8_kindOf v4 μ hq) h (fun q5 h => ?_)
    refine rw_iload_n 69 dX8_cutLetters_69 1 rfl ?_
    refine rw_lload 70 dX8_cutLetters_70 3 rfl ?_
    refine rn_cVmv 72 8 [.int q5, .int v2, .long v4] dX8_cutLetters_72 caX8_add lX8_52 inX8_add slX8_add rfl ly_4 ⟨_, rfl, rfl⟩ rln_4 naX8_add (Nat.le_of_ble_eq_true rfl) (Nat.le_of_ble_eq_true rfl) (by decide) (fun _ hq => wX8_add q5 v2 v4 μ hq) h (fun q6 h => ?_)
    refine rw_iload_n 75 dX8_cutLetters_75 2 rfl ?_
    exact rn_iret2 76 dX8_cutLetters_76 rfl h
  · refine rw_iconst 59 (v := 1) dX8_cutLetters_59 (by decide) ?_
    refine rw_goto 60 69 dX8_cutLetters_60 (by decide) ?_
    refine rw_iload_n 69 dX8_cutLetters_69 1 rfl ?_
    refine rw_lload 70 dX8_cutLetters_70 3 rfl ?_
    refine rn_cVmv 72 8 [.int 1, .int v2, .long v4] dX8_cutLetters_72 caX8_add lX8_52 inX8_add slX8_add rfl ly_4 ⟨_, rfl, rfl⟩ rln_4 naX8_add (Nat.le_of_ble_eq_true rfl) (Nat.le_of_ble_eq_true rfl) (by decide) (fun _ hq => wX8_add 1 v2 v4 μ hq) h (fun q7 h => ?_)
    refine rw_iload_n 75 dX8_cutLetters_75 2 rfl ?_
    exact rn_iret2 76 dX8_cutLetters_76 rfl h
set_option maxRecDepth 100000 in
theorem wX8_cutLetters (a2 : Int32) (μ : Mem) {res : Int32 × Mem} (h : fX8_cutLetters a2 μ = some res) : Ct mX8_cutLetters 2 NF NF [.ref 4, .ref 1, .int a2] (μ, Rf0, NF) (QN (some (.int res.1)) res.2 Rf0 NF) := by
  unfold fX8_cutLetters at h
  show RW mX8_cutLetters 2 NF NF 0 [(0, .ref 4), (1, .ref 1), (2, .int a2)] [] (μ, Rf0, NF) (QN (some (.int res.1)) res.2 Rf0 NF)
  refine rw_iload_n 0 dX8_cutLetters_0 2 rfl ?_
  refine rw_istore_n 1 [(0, .ref 4), (1, .ref 1), (2, .int a2), (3, .int a2)] dX8_cutLetters_1 (by decide) rfl ?_
  refine rw_lconst 2 (v := 0) dX8_cutLetters_2 (by decide) ?_
  refine rw_lstore 3 [(0, .ref 4), (1, .ref 1), (2, .int a2), (3, .int a2), (4, .long 0)] dX8_cutLetters_3 (by decide) rfl ?_
  refine wX8_cutLetters_5 a2 μ _ (fun y3 y4 h => ?_) FU a2 0 h
  exact wX8_cutLetters_j50 a2 y3 y4 μ h
def fX8_isDigit (a0 : Int32) (μ : Mem) : Option (Bool) :=
  if a0 < 48 then
    some false
  else
    if 57 < a0 then
      some false
    else
      some true
set_option maxRecDepth 100000 in
theorem wX8_isDigit (a0 : Int32) (μ : Mem) {res : Bool} (h : fX8_isDigit a0 μ = some res) : Ct mX8_isDigit 1 NF NF [.int a0] (μ, Rf0, NF) (QN (some (.int (b2i res))) μ Rf0 NF) := by
  unfold fX8_isDigit at h
  show RW mX8_isDigit 1 NF NF 0 [(0, .int a0)] [] (μ, Rf0, NF) (QN (some (.int (b2i res))) μ Rf0 NF)
  refine rw_iload_n 0 dX8_isDigit_0 0 rfl ?_
  refine rw_bipush 1 (v := 48) dX8_isDigit_1 (by decide) ?_
  refine rn_icmp_lt 3 16 dX8_isDigit_3 (by decide) h (fun _ h => ?_) (fun _ h => ?_)
  · refine rw_iconst 16 (v := 0) dX8_isDigit_16 (by decide) ?_
    exact rn_zret 17 (v := false) dX8_isDigit_17 rfl h
  · refine rw_iload_n 6 dX8_isDigit_6 0 rfl ?_
    refine rw_bipush 7 (v := 57) dX8_isDigit_7 (by decide) ?_
    refine rn_icmp_gt 9 16 dX8_isDigit_9 (by decide) h (fun _ h => ?_) (fun _ h => ?_)
    · refine rw_iconst 16 (v := 0) dX8_isDigit_16 (by decide) ?_
      exact rn_zret 17 (v := false) dX8_isDigit_17 rfl h
    · refine rw_iconst 12 (v := 1) dX8_isDigit_12 (by decide) ?_
      refine rw_goto 13 17 dX8_isDigit_13 (by decide) ?_
      exact rn_zret 17 (v := true) dX8_isDigit_17 rfl h
def fX8_cutDigits_5   (v2 : Int32) (μ : Mem) (K : Int32 → Int32 → Option (Int32 × Mem)) : Nat → Int32 → Int32 → Option (Int32 × Mem)
  | 0, _, _ => none
  | n + 1, v3, v4 =>
    if v3 < (μ.1 1 1) then
      if inb v3 2000 then
      (fX8_isDigit (μ.1 2 v3.toNatClampNeg) μ).bind fun q1 =>
      if q1 = true then
        if inb v3 2000 then
        nm ((v4 * 10) + ((μ.1 2 v3.toNatClampNeg) - 48)) fun x2 =>
        fX8_cutDigits_5 v2 μ K n (v3 + 1) x2
        else none
      else
        K v3 v4
      else none
    else
      K v3 v4
def fX8_cutDigits_j48    (v2 : Int32) (v3 : Int32) (v4 : Int32) (μ : Mem) : Option (Int32 × Mem) :=
  if 4 < (v3 - v2) then
    (fX8_add 1 v2 v4.toInt64 μ).bind fun q6 =>
    some (v3, q6)
  else
    (fX8_add 3 v2 v4.toInt64 μ).bind fun q5 =>
    some (v3, q5)
def fX8_cutDigits (a2 : Int32) (μ : Mem) : Option (Int32 × Mem) :=
  fX8_cutDigits_5 a2 μ (fun y3 y4 =>
      fX8_cutDigits_j48 a2 y3 y4 μ
  ) FU a2 0
set_option maxRecDepth 100000 in
theorem wX8_cutDigits_5   (v2 : Int32) (μ : Mem) (K : Int32 → Int32 → Option (Int32 × Mem)) {res : Int32 × Mem} (hK : ∀ (v3 : Int32) (v4 : Int32), K v3 v4 = some res → RW mX8_cutDigits 2 NF NF 48 [(0, .ref 4), (2, .int v2), (3, .int v3), (4, .int v4)] [] (μ, Rf0, NF) (QN (some (.int res.1)) res.2 Rf0 NF)) : ∀ (n9 : Nat) (v3 : Int32) (v4 : Int32), fX8_cutDigits_5 v2 μ K n9 v3 v4 = some res → RW mX8_cutDigits 2 NF NF 5 [(0, .ref 4), (1, .ref 1), (2, .int v2), (3, .int v3), (4, .int v4)] [] (μ, Rf0, NF) (QN (some (.int res.1)) res.2 Rf0 NF) := by
  intro n9
  induction n9 with
  | zero => intro _ _ h; cases h
  | succ n ih =>
    intro v3 v4 h
    unfold fX8_cutDigits_5 at h
    refine rw_iload_n 5 dX8_cutDigits_5 3 rfl ?_
    refine rw_aload_n 6 dX8_cutDigits_6 1 rfl ?_
    refine rw_getI 7 6 1 kc6 dX8_cutDigits_7 ly_1 rln_1 fX8_45 rfl ?_
    refine rn_icmp_ge 10 48 dX8_cutDigits_10 (by decide) h (fun _ h => ?_) (fun _ h => ?_)
    · refine rw_pick 48 [0, 2, 3, 4] rfl ?_
      exact hK v3 v4 h
    · refine rw_aload_n 13 dX8_cutDigits_13 1 rfl ?_
      refine rw_getR 14 6 0 kc6 dX8_cutDigits_14 ly_1 rln_1 fX8_56 rfl rf_1_0 ?_
      refine rw_iload_n 17 dX8_cutDigits_17 3 rfl ?_
      refine rn_bald 18 dX8_cutDigits_18 ly_2 rln_2 h (fun h => ?_)
      refine rn_cSpb 19 [.int (μ.1 2 v3.toNatClampNeg)] dX8_cutDigits_19 caX8_isDigit lX8_70 stX8_isDigit rfl naX8_isDigit (Nat.le_of_ble_eq_true rfl) (Nat.le_of_ble_eq_true rfl) (by decide) (fun _ hq => wX8_isDigit (μ.1 2 v3.toNatClampNeg) μ hq) h (fun q1 h => ?_)
      refine rn_ifb_eq 22 48 dX8_cutDigits_22 (by decide) h (fun _ h => ?_) (fun _ h => ?_)
      · refine rw_pick 48 [0, 2, 3, 4] rfl ?_
        exact hK v3 v4 h
      · refine rw_iload 25 dX8_cutDigits_25 4 rfl ?_
        refine rw_bipush 27 (v := 10) dX8_cutDigits_27 (by decide) ?_
        refine rw_imul 29 dX8_cutDigits_29 ?_
        refine rw_aload_n 30 dX8_cutDigits_30 1 rfl ?_
        refine rw_getR 31 6 0 kc6 dX8_cutDigits_31 ly_1 rln_1 fX8_56 rfl rf_1_0 ?_
        refine rw_iload_n 34 dX8_cutDigits_34 3 rfl ?_
        refine rn_bald 35 dX8_cutDigits_35 ly_2 rln_2 h (fun h => ?_)
        refine rw_bipush 36 (v := 48) dX8_cutDigits_36 (by decide) ?_
        refine rw_isub 38 dX8_cutDigits_38 ?_
        refine rw_iadd 39 dX8_cutDigits_39 ?_
        refine rn_ist 40 (fun x2 => [(0, .ref 4), (1, .ref 1), (2, .int v2), (3, .int v3), (4, .int x2)]) dX8_cutDigits_40 (by decide) (fun _ => rfl) h (fun x2 h => ?_)
        refine rw_iinc 42 [(0, .ref 4), (1, .ref 1), (2, .int v2), (3, .int (v3 + 1)), (4, .int x2)] dX8_cutDigits_42 3 rfl rfl (by decide) rfl ?_
        refine rw_goto 45 5 dX8_cutDigits_45 (by decide) ?_
        exact ih (v3 + 1) x2 h
set_option maxRecDepth 100000 in
theorem wX8_cutDigits_j48   {res : Int32 × Mem} (v2 : Int32) (v3 : Int32) (v4 : Int32) (μ : Mem)  (h : fX8_cutDigits_j48 v2 v3 v4 μ = some res) : RW mX8_cutDigits 2 NF NF 48 [(0, .ref 4), (2, .int v2), (3, .int v3), (4, .int v4)] [] (μ, Rf0, NF) (QN (some (.int res.1)) res.2 Rf0 NF) := by
  unfold fX8_cutDigits_j48 at h
  refine rw_aload_n 48 dX8_cutDigits_48 0 rfl ?_
  refine rw_iload_n 49 dX8_cutDigits_49 2 rfl ?_
  refine rw_iload_n 50 dX8_cutDigits_50 1 rfl ?_
  refine rw_isub 51 dX8_cutDigits_51 ?_
  refine rw_iconst 52 (v := 4) dX8_cutDigits_52 (by decide) ?_
  refine rn_icmp_le 53 60 dX8_cutDigits_53 (by decide) h (fun _ h => ?_) (fun _ h => ?_)
  · refine rw_iconst 60 (v := 3) dX8_cutDigits_60 (by decide) ?_
    refine rw_iload_n 61 dX8_cutDigits_61 1 rfl ?_
    refine rw_iload 62 dX8_cutDigits_62 3 rfl ?_
    refine rw_i2l 64 dX8_cutDigits_64 ?_
    refine rn_cVmv 65 8 [.int 3, .int v2, .long v4.toInt64] dX8_cutDigits_65 caX8_add lX8_52 inX8_add slX8_add rfl ly_4 ⟨_, rfl, rfl⟩ rln_4 naX8_add (Nat.le_of_ble_eq_true rfl) (Nat.le_of_ble_eq_true rfl) (by decide) (fun _ hq => wX8_add 3 v2 v4.toInt64 μ hq) h (fun q5 h => ?_)
    refine rw_iload_n 68 dX8_cutDigits_68 2 rfl ?_
    exact rn_iret2 69 dX8_cutDigits_69 rfl h
  · refine rw_iconst 56 (v := 1) dX8_cutDigits_56 (by decide) ?_
    refine rw_goto 57 61 dX8_cutDigits_57 (by decide) ?_
    refine rw_iload_n 61 dX8_cutDigits_61 1 rfl ?_
    refine rw_iload 62 dX8_cutDigits_62 3 rfl ?_
    refine rw_i2l 64 dX8_cutDigits_64 ?_
    refine rn_cVmv 65 8 [.int 1, .int v2, .long v4.toInt64] dX8_cutDigits_65 caX8_add lX8_52 inX8_add slX8_add rfl ly_4 ⟨_, rfl, rfl⟩ rln_4 naX8_add (Nat.le_of_ble_eq_true rfl) (Nat.le_of_ble_eq_true rfl) (by decide) (fun _ hq => wX8_add 1 v2 v4.toInt64 μ hq) h (fun q6 h => ?_)
    refine rw_iload_n 68 dX8_cutDigits_68 2 rfl ?_
    exact rn_iret2 69 dX8_cutDigits_69 rfl h
set_option maxRecDepth 100000 in
theorem wX8_cutDigits (a2 : Int32) (μ : Mem) {res : Int32 × Mem} (h : fX8_cutDigits a2 μ = some res) : Ct mX8_cutDigits 2 NF NF [.ref 4, .ref 1, .int a2] (μ, Rf0, NF) (QN (some (.int res.1)) res.2 Rf0 NF) := by
  unfold fX8_cutDigits at h
  show RW mX8_cutDigits 2 NF NF 0 [(0, .ref 4), (1, .ref 1), (2, .int a2)] [] (μ, Rf0, NF) (QN (some (.int res.1)) res.2 Rf0 NF)
  refine rw_iload_n 0 dX8_cutDigits_0 2 rfl ?_
  refine rw_istore_n 1 [(0, .ref 4), (1, .ref 1), (2, .int a2), (3, .int a2)] dX8_cutDigits_1 (by decide) rfl ?_
  refine rw_iconst 2 (v := 0) dX8_cutDigits_2 (by decide) ?_
  refine rw_istore 3 [(0, .ref 4), (1, .ref 1), (2, .int a2), (3, .int a2), (4, .int 0)] dX8_cutDigits_3 (by decide) rfl ?_
  refine wX8_cutDigits_5 a2 μ _ (fun y3 y4 h => ?_) FU a2 0 h
  exact wX8_cutDigits_j48 a2 y3 y4 μ h
def fX8_cutOne_j50    (v2 : Int32) (s0 : Int32) (μ : Mem) : Option (Int32 × Mem) :=
  if s0 < 0 then
    (fX8_add 1 v2 0 μ).bind fun q5 =>
    some ((v2 + 1), q5)
  else
    (fX8_add (4 + s0) v2 0 μ).bind fun q4 =>
    some ((v2 + 1), q4)
def fX8_cutOne (a2 : Int32) (μ : Mem) : Option (Int32 × Mem) :=
  if inb a2 2000 then
  nm (μ.1 2 a2.toNatClampNeg) fun x1 =>
  (fX8_isLetter x1 μ).bind fun q2 =>
  if q2 = true then
    (fX8_cutLetters a2 μ).bind fun q7 =>
    some (q7.1, q7.2)
  else
    (fX8_isDigit x1 μ).bind fun q3 =>
    if q3 = true then
      (fX8_cutDigits a2 μ).bind fun q6 =>
      some (q6.1, q6.2)
    else
      if 0 < x1 then
        fX8_cutOne_j50 a2 (idxS (i2c x1)) μ
      else
        fX8_cutOne_j50 a2 (-1) μ
  else none
set_option maxRecDepth 100000 in
theorem wX8_cutOne_j50   {res : Int32 × Mem} (v2 : Int32) (s0 : Int32) (μ : Mem)  (h : fX8_cutOne_j50 v2 s0 μ = some res) : RW mX8_cutOne 7 NF NF 50 [(0, .ref 4), (2, .int v2)] [.int s0] (μ, Rf0, NF) (QN (some (.int res.1)) res.2 Rf0 NF) := by
  unfold fX8_cutOne_j50 at h
  refine rw_istore 50 [(0, .ref 4), (2, .int v2), (4, .int s0)] dX8_cutOne_50 (by decide) rfl ?_
  refine rw_aload_n 52 dX8_cutOne_52 0 rfl ?_
  refine rw_iload 53 dX8_cutOne_53 2 rfl ?_
  refine rn_if_ge 55 62 dX8_cutOne_55 (by decide) h (fun _ h => ?_) (fun _ h => ?_)
  · refine rw_iconst 62 (v := 4) dX8_cutOne_62 (by decide) ?_
    refine rw_iload 63 dX8_cutOne_63 2 rfl ?_
    refine rw_iadd 65 dX8_cutOne_65 ?_
    refine rw_iload_n 66 dX8_cutOne_66 1 rfl ?_
    refine rw_lconst 67 (v := 0) dX8_cutOne_67 (by decide) ?_
    refine rn_cVmv 68 8 [.int (4 + s0), .int v2, .long 0] dX8_cutOne_68 caX8_add lX8_52 inX8_add slX8_add rfl ly_4 ⟨_, rfl, rfl⟩ rln_4 naX8_add (Nat.le_of_ble_eq_true rfl) (Nat.le_of_ble_eq_true rfl) (by decide) (fun _ hq => wX8_add (4 + s0) v2 0 μ hq) h (fun q4 h => ?_)
    refine rw_iload_n 71 dX8_cutOne_71 1 rfl ?_
    refine rw_iconst 72 (v := 1) dX8_cutOne_72 (by decide) ?_
    refine rw_iadd 73 dX8_cutOne_73 ?_
    exact rn_iret2 74 dX8_cutOne_74 rfl h
  · refine rw_iconst 58 (v := 1) dX8_cutOne_58 (by decide) ?_
    refine rw_goto 59 66 dX8_cutOne_59 (by decide) ?_
    refine rw_iload_n 66 dX8_cutOne_66 1 rfl ?_
    refine rw_lconst 67 (v := 0) dX8_cutOne_67 (by decide) ?_
    refine rn_cVmv 68 8 [.int 1, .int v2, .long 0] dX8_cutOne_68 caX8_add lX8_52 inX8_add slX8_add rfl ly_4 ⟨_, rfl, rfl⟩ rln_4 naX8_add (Nat.le_of_ble_eq_true rfl) (Nat.le_of_ble_eq_true rfl) (by decide) (fun _ hq => wX8_add 1 v2 0 μ hq) h (fun q5 h => ?_)
    refine rw_iload_n 71 dX8_cutOne_71 1 rfl ?_
    refine rw_iconst 72 (v := 1) dX8_cutOne_72 (by decide) ?_
    refine rw_iadd 73 dX8_cutOne_73 ?_
    exact rn_iret2 74 dX8_cutOne_74 rfl h
set_option maxRecDepth 100000 in
theorem wX8_cutOne (a2 : Int32) (μ : Mem) {res : Int32 × Mem} (h : fX8_cutOne a2 μ = some res) : Ct mX8_cutOne 7 NF NF [.ref 4, .ref 1, .int a2] (μ, Rf0, NF) (QN (some (.int res.1)) res.2 Rf0 NF) := by
  unfold fX8_cutOne at h
  show RW mX8_cutOne 7 NF NF 0 [(0, .ref 4), (1, .ref 1), (2, .int a2)] [] (μ, Rf0, NF) (QN (some (.int res.1)) res.2 Rf0 NF)
  refine rw_aload_n 0 dX8_cutOne_0 1 rfl ?_
  refine rw_getR 1 6 0 kc6 dX8_cutOne_1 ly_1 rln_1 fX8_56 rfl rf_1_0 ?_
  refine rw_iload_n 4 dX8_cutOne_4 2 rfl ?_
  refine rn_bald 5 dX8_cutOne_5 ly_2 rln_2 h (fun h => ?_)
  refine rn_ist_n 6 (fun x1 => [(0, .ref 4), (1, .ref 1), (2, .int a2), (3, .int x1)]) dX8_cutOne_6 (by decide) (fun _ => rfl) h (fun x1 h => ?_)
  refine rw_iload_n 7 dX8_cutOne_7 3 rfl ?_
  refine rn_cSpb 8 [.int x1] dX8_cutOne_8 caX8_isLetter lX8_64 stX8_isLetter rfl naX8_isLetter (Nat.le_of_ble_eq_true rfl) (Nat.le_of_ble_eq_true rfl) (by decide) (fun _ hq => wX8_isLetter x1 μ hq) h (fun q2 h => ?_)
  refine rn_ifb_eq 11 21 dX8_cutOne_11 (by decide) h (fun _ h => ?_) (fun _ h => ?_)
  · refine rw_iload_n 21 dX8_cutOne_21 3 rfl ?_
    refine rn_cSpb 22 [.int x1] dX8_cutOne_22 caX8_isDigit lX8_70 stX8_isDigit rfl naX8_isDigit (Nat.le_of_ble_eq_true rfl) (Nat.le_of_ble_eq_true rfl) (by decide) (fun _ hq => wX8_isDigit x1 μ hq) h (fun q3 h => ?_)
    refine rn_ifb_eq 25 35 dX8_cutOne_25 (by decide) h (fun _ h => ?_) (fun _ h => ?_)
    · refine rw_iload_n 35 dX8_cutOne_35 3 rfl ?_
      refine rn_if_le 36 49 dX8_cutOne_36 (by decide) h (fun _ h => ?_) (fun _ h => ?_)
      · refine rw_iconst 49 (v := -1) dX8_cutOne_49 (by decide) ?_
        refine rw_pick 50 [0, 2] rfl ?_
        exact wX8_cutOne_j50 a2 (-1) μ h
      · refine rw_ldcS 39 dX8_cutOne_39 rfl ?_
        refine rw_iload_n 41 dX8_cutOne_41 3 rfl ?_
        refine rw_i2c 42 dX8_cutOne_42 ?_
        refine rw_idxS 43 dX8_cutOne_43 rfl (by decide) (Nat.le_of_ble_eq_true rfl) ?_
        refine rw_goto 46 50 dX8_cutOne_46 (by decide) ?_
        refine rw_pick 50 [0, 2] rfl ?_
        exact wX8_cutOne_j50 a2 (idxS (i2c x1)) μ h
    · refine rw_aload_n 28 dX8_cutOne_28 0 rfl ?_
      refine rw_aload_n 29 dX8_cutOne_29 1 rfl ?_
      refine rw_iload_n 30 dX8_cutOne_30 2 rfl ?_
      refine rn_cVmi 31 8 [.ref 1, .int a2] dX8_cutOne_31 caX8_cutDigits lX8_73 inX8_cutDigits slX8_cutDigits rfl ly_4 ⟨_, rfl, rfl⟩ rln_4 naX8_cutDigits (Nat.le_of_ble_eq_true rfl) (Nat.le_of_ble_eq_true rfl) (by decide) (fun _ hq => wX8_cutDigits a2 μ hq) h (fun q6 h => ?_)
      exact rn_iret2 34 dX8_cutOne_34 rfl h
  · refine rw_aload_n 14 dX8_cutOne_14 0 rfl ?_
    refine rw_aload_n 15 dX8_cutOne_15 1 rfl ?_
    refine rw_iload_n 16 dX8_cutOne_16 2 rfl ?_
    refine rn_cVmi 17 8 [.ref 1, .int a2] dX8_cutOne_17 caX8_cutLetters lX8_67 inX8_cutLetters slX8_cutLetters rfl ly_4 ⟨_, rfl, rfl⟩ rln_4 naX8_cutLetters (Nat.le_of_ble_eq_true rfl) (Nat.le_of_ble_eq_true rfl) (by decide) (fun _ hq => wX8_cutLetters a2 μ hq) h (fun q7 h => ?_)
    exact rn_iret2 20 dX8_cutOne_20 rfl h
def fX8_cut_9     (K : Mem → Option (Mem)) : Nat → Int32 → Int32 → Mem → Option (Mem)
  | 0, _, _, _ => none
  | n + 1, v2, v3, μ =>
    if 400 < v3 then
      K μ
    else
      (fX8_behindBlanks v2 μ).bind fun q2 =>
      if q2 < (μ.1 1 1) then
        (fX8_cutOne q2 μ).bind fun q3 =>
        if inb ((q3.2.1 4 4) - 1) 402 then
        if (q3.2.1 5 ((q3.2.1 4 4) - 1).toNatClampNeg) = 1 then
          some q3.2
        else
          fX8_cut_9 K n q3.1 (v3 + 1) q3.2
        else none
      else
        K μ
def fX8_cut  (μ : Mem) : Option (Mem) :=
  nm (wI μ 4 4 0) fun μ1 =>
  fX8_cut_9  (fun μ4 =>
      (fX8_add 0 (μ4.1 1 1) 0 μ4).bind fun q5 =>
      some q5
  ) FU 0 0 μ1
set_option maxRecDepth 100000 in
theorem wX8_cut_9     (K : Mem → Option (Mem)) {res : Mem} (hK : ∀  (μ : Mem), K μ = some res → RW mX8_cut 8 NF NF 63 [(0, .ref 4), (1, .ref 1)] [] (μ, Rf0, NF) (QN none res Rf0 NF)) : ∀ (n9 : Nat) (v2 : Int32) (v3 : Int32) (μ : Mem), fX8_cut_9 K n9 v2 v3 μ = some res → RW mX8_cut 8 NF NF 9 [(0, .ref 4), (1, .ref 1), (2, .int v2), (3, .int v3)] [] (μ, Rf0, NF) (QN none res Rf0 NF) := by
  intro n9
  induction n9 with
  | zero => intro _ _ _ h; cases h
  | succ n ih =>
    intro v2 v3 μ h
    unfold fX8_cut_9 at h
    refine rw_iload_n 9 dX8_cut_9 3 rfl ?_
    refine rw_sipush 10 (v := 400) dX8_cut_10 (by decide) ?_
    refine rn_icmp_gt 13 63 dX8_cut_13 (by decide) h (fun _ h => ?_) (fun _ h => ?_)
    · refine rw_pick 63 [0, 1] rfl ?_
      exact hK μ h
    · refine rw_aload_n 16 dX8_cut_16 0 rfl ?_
      refine rw_aload_n 17 dX8_cut_17 1 rfl ?_
      refine rw_iload_n 18 dX8_cut_18 2 rfl ?_
      refine rn_cVpi 19 8 [.ref 1, .int v2] dX8_cut_19 caX8_behindBlanks lX8_41 inX8_behindBlanks slX8_behindBlanks rfl ly_4 ⟨_, rfl, rfl⟩ rln_4 naX8_behindBlanks (Nat.le_of_ble_eq_true rfl) (Nat.le_of_ble_eq_true rfl) (by decide) (fun _ hq => wX8_behindBlanks v2 μ hq) h (fun q2 h => ?_)
      refine rw_istore_n 22 [(0, .ref 4), (1, .ref 1), (2, .int q2), (3, .int v3)] dX8_cut_22 (by decide) rfl ?_
      refine rw_iload_n 23 dX8_cut_23 2 rfl ?_
      refine rw_aload_n 24 dX8_cut_24 1 rfl ?_
      refine rw_getI 25 6 1 kc6 dX8_cut_25 ly_1 rln_1 fX8_45 rfl ?_
      refine rn_icmp_lt 28 34 dX8_cut_28 (by decide) h (fun _ h => ?_) (fun _ h => ?_)
      · refine rw_aload_n 34 dX8_cut_34 0 rfl ?_
        refine rw_aload_n 35 dX8_cut_35 1 rfl ?_
        refine rw_iload_n 36 dX8_cut_36 2 rfl ?_
        refine rn_cVmi 37 8 [.ref 1, .int q2] dX8_cut_37 caX8_cutOne lX8_49 inX8_cutOne slX8_cutOne rfl ly_4 ⟨_, rfl, rfl⟩ rln_4 naX8_cutOne (Nat.le_of_ble_eq_true rfl) (Nat.le_of_ble_eq_true rfl) (by decide) (fun _ hq => wX8_cutOne q2 μ hq) h (fun q3 h => ?_)
        refine rw_istore_n 40 [(0, .ref 4), (1, .ref 1), (2, .int q3.1), (3, .int v3)] dX8_cut_40 (by decide) rfl ?_
        refine rw_aload_n 41 dX8_cut_41 0 rfl ?_
        refine rw_getR 42 8 0 kc8 dX8_cut_42 ly_4 rln_4 fX8_9 rfl rf_4_0 ?_
        refine rw_aload_n 45 dX8_cut_45 0 rfl ?_
        refine rw_getI 46 8 4 kc8 dX8_cut_46 ly_4 rln_4 fX8_25 rfl ?_
        refine rw_iconst 49 (v := 1) dX8_cut_49 (by decide) ?_
        refine rw_isub 50 dX8_cut_50 ?_
        refine rn_iald 51 dX8_cut_51 ly_5 rln_5 h (fun h => ?_)
        refine rw_iconst 52 (v := 1) dX8_cut_52 (by decide) ?_
        refine rn_icmp_ne 53 57 dX8_cut_53 (by decide) h (fun _ h => ?_) (fun _ h => ?_)
        · refine rw_iinc 57 [(0, .ref 4), (1, .ref 1), (2, .int q3.1), (3, .int (v3 + 1))] dX8_cut_57 3 rfl rfl (by decide) rfl ?_
          refine rw_goto 60 9 dX8_cut_60 (by decide) ?_
          exact ih q3.1 (v3 + 1) q3.2 h
        · exact rn_vret 56 dX8_cut_56 rfl h
      · refine rw_goto 31 63 dX8_cut_31 (by decide) ?_
        refine rw_pick 63 [0, 1] rfl ?_
        exact hK μ h
set_option maxRecDepth 100000 in
theorem wX8_cut  (μ : Mem) {res : Mem} (h : fX8_cut  μ = some res) : Ct mX8_cut 8 NF NF [.ref 4, .ref 1] (μ, Rf0, NF) (QN none res Rf0 NF) := by
  unfold fX8_cut at h
  show RW mX8_cut 8 NF NF 0 [(0, .ref 4), (1, .ref 1)] [] (μ, Rf0, NF) (QN none res Rf0 NF)
  refine rw_aload_n 0 dX8_cut_0 0 rfl ?_
  refine rw_iconst 1 (v := 0) dX8_cut_1 (by decide) ?_
  refine rn_putI 2 8 4 kc8 dX8_cut_2 ly_4 rln_4 fX8_25 (fun q hq => by cases hq; rfl) rfl rfl rfl h (fun μ1 h => ?_)
  refine rw_iconst 5 (v := 0) dX8_cut_5 (by decide) ?_
  refine rw_istore_n 6 [(0, .ref 4), (1, .ref 1), (2, .int 0)] dX8_cut_6 (by decide) rfl ?_
  refine rw_iconst 7 (v := 0) dX8_cut_7 (by decide) ?_
  refine rw_istore_n 8 [(0, .ref 4), (1, .ref 1), (2, .int 0), (3, .int 0)] dX8_cut_8 (by decide) rfl ?_
  refine wX8_cut_9 _ (fun μ4 h => ?_) FU 0 0 μ1 h
  refine rw_aload_n 63 dX8_cut_63 0 rfl ?_
  refine rw_iconst 64 (v := 0) dX8_cut_64 (by decide) ?_
  refine rw_aload_n 65 dX8_cut_65 1 rfl ?_
  refine rw_getI 66 6 1 kc6 dX8_cut_66 ly_1 rln_1 fX8_45 rfl ?_
  refine rw_lconst 69 (v := 0) dX8_cut_69 (by decide) ?_
  refine rn_cVmv 70 8 [.int 0, .int (μ4.1 1 1), .long 0] dX8_cut_70 caX8_add lX8_52 inX8_add slX8_add rfl ly_4 ⟨_, rfl, rfl⟩ rln_4 naX8_add (Nat.le_of_ble_eq_true rfl) (Nat.le_of_ble_eq_true rfl) (by decide) (fun _ hq => wX8_add 0 (μ4.1 1 1) 0 μ4 hq) h (fun q5 h => ?_)
  exact rn_vret 73 dX8_cut_73 rfl h
