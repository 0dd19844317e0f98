def fX1_wear_2 (t1 : Nat) (t2 : Nat)    (K : Mem → Option (Mem)) : Nat → Int32 → Mem → Option (Mem)
  | 0, _, _ => none
  | n + 1, v3, μ =>
    if v3 < (μ.1 t1 0) then
      if inb v3 4 then
      if (μ.1 (t2 + 1) v3.toNatClampNeg) = 0 then
        fX1_wear_2 t1 t2 K n (v3 + 1) μ
      else
        if inb v3 4 then
        (fX1_ofSunday 2 t1 t2 v3 μ).bind fun q1 =>
        if inb v3 4 then nm (wI q1.2 (t2 + 2) v3.toNatClampNeg (mnI 99 ((μ.1 (t2 + 2) v3.toNatClampNeg) + q1.1))) fun μ2 =>
        fX1_wear_2 t1 t2 K n (v3 + 1) μ2
        else none
        else none
      else none
    else
      K μ
def fX1_wear (t1 : Nat) (t2 : Nat) (μ : Mem) : Option (Mem) :=
  fX1_wear_2 t1 t2 (fun μ3 =>
      some μ3
  ) FU 0 μ
set_option maxRecDepth 100000 in
theorem wX1_wear_2 (t1 : Nat) (ht1 : okX7 Rf0 NF t1) (t2 : Nat) (ht2 : okX5 Rf0 NF t2)    (K : Mem → Option (Mem)) {res : Mem} (hK : ∀  (μ : Mem), K μ = some res → RW mX1_wear 5 NF NF 51 [] [] (μ, Rf0, NF) (QN none res Rf0 NF)) : ∀ (n9 : Nat) (v3 : Int32) (μ : Mem), fX1_wear_2 t1 t2 K n9 v3 μ = some res → RW mX1_wear 5 NF NF 2 [(0, .ref 180), (1, .ref t1), (2, .ref t2), (3, .int v3)] [] (μ, Rf0, NF) (QN none res Rf0 NF) := by
  intro n9
  induction n9 with
  | zero => intro _ _ h; cases h
  | succ n ih =>
    intro v3 μ h
    unfold fX1_wear_2 at h
    refine rw_iload_n 2 dX1_wear_2 3 rfl ?_
    refine rw_aload_n 3 dX1_wear_3 1 rfl ?_
    refine rw_getI 4 7 0 kc7 dX1_wear_4 (o7l ht1) (o7n ht1) fX1_110 rfl ?_
    refine rn_icmp_ge 7 51 dX1_wear_7 (by decide) h (fun _ h => ?_) (fun _ h => ?_)
    · refine rw_pick 51 [] rfl ?_
      exact hK μ h
    · refine rw_aload_n 10 dX1_wear_10 2 rfl ?_
      refine rw_getR 11 5 4 kc5 dX1_wear_11 (o5l ht2) (o5n ht2) fX1_26 rfl (o5r4 ht2) ?_
      refine rw_iload_n 14 dX1_wear_14 3 rfl ?_
      refine rn_iald 15 dX1_wear_15 (o5l4 ht2) (o5n4 ht2) h (fun h => ?_)
      refine rn_if_eq 16 45 dX1_wear_16 (by decide) h (fun _ h => ?_) (fun _ h => ?_)
      · refine rw_iinc 45 [(0, .ref 180), (1, .ref t1), (2, .ref t2), (3, .int (v3 + 1))] dX1_wear_45 3 rfl rfl (by decide) rfl ?_
        refine rw_goto 48 2 dX1_wear_48 (by decide) ?_
        exact ih (v3 + 1) μ h
      · refine rw_aload_n 19 dX1_wear_19 2 rfl ?_
        refine rw_getR 20 5 5 kc5 dX1_wear_20 (o5l ht2) (o5n ht2) fX1_67 rfl (o5r5 ht2) ?_
        refine rw_iload_n 23 dX1_wear_23 3 rfl ?_
        refine rw_bipush 24 (v := 99) dX1_wear_24 (by decide) ?_
        refine rw_aload_n 26 dX1_wear_26 2 rfl ?_
        refine rw_getR 27 5 5 kc5 dX1_wear_27 (o5l ht2) (o5n ht2) fX1_67 rfl (o5r5 ht2) ?_
        refine rw_iload_n 30 dX1_wear_30 3 rfl ?_
        refine rn_iald 31 dX1_wear_31 (o5l5 ht2) (o5n5 ht2) h (fun h => ?_)
        refine rw_aload_n 32 dX1_wear_32 0 rfl ?_
        refine rw_iconst 33 (v := 2) dX1_wear_33 (by decide) ?_
        refine rw_aload_n 34 dX1_wear_34 1 rfl ?_
        refine rw_aload_n 35 dX1_wear_35 2 rfl ?_
        refine rw_iload_n 36 dX1_wear_36 3 rfl ?_
        refine rn_cVmi 37 1 [.int 2, .ref t1, .ref t2, .int v3] dX1_wear_37 caX1_ofSunday lX1_113 inX1_ofSunday slX1_ofSunday rfl ly_180 ⟨_, rfl, rfl⟩ rln_180 naX1_ofSunday (Nat.le_of_ble_eq_true rfl) (Nat.le_of_ble_eq_true rfl) (by decide) (fun _ hq => wX1_ofSunday 2 t1 ht1 t2 ht2 v3 μ hq) h (fun q1 h => ?_)
        refine rw_iadd 40 dX1_wear_40 ?_
        refine rw_mmin 41 dX1_wear_41 lX1_81 stJ9_min_7cf53 iiJ9_min_7cf53 coJ9_min_7cf53 (by decide) (Nat.le_of_ble_eq_true rfl) ?_
        refine rn_iast 44 dX1_wear_44 (o5l5 ht2) (o5n5 ht2) h (fun μ2 h => ?_)
        refine rw_iinc 45 [(0, .ref 180), (1, .ref t1), (2, .ref t2), (3, .int (v3 + 1))] dX1_wear_45 3 rfl rfl (by decide) rfl ?_
        refine rw_goto 48 2 dX1_wear_48 (by decide) ?_
        exact ih (v3 + 1) μ2 h
set_option maxRecDepth 100000 in
theorem wX1_wear (t1 : Nat) (ht1 : okX7 Rf0 NF t1) (t2 : Nat) (ht2 : okX5 Rf0 NF t2) (μ : Mem) {res : Mem} (h : fX1_wear t1 t2 μ = some res) : Ct mX1_wear 5 NF NF [.ref 180, .ref t1, .ref t2] (μ, Rf0, NF) (QN none res Rf0 NF) := by
  unfold fX1_wear at h
  show RW mX1_wear 5 NF NF 0 [(0, .ref 180), (1, .ref t1), (2, .ref t2)] [] (μ, Rf0, NF) (QN none res Rf0 NF)
  refine rw_iconst 0 (v := 0) dX1_wear_0 (by decide) ?_
  refine rw_istore_n 1 [(0, .ref 180), (1, .ref t1), (2, .ref t2), (3, .int 0)] dX1_wear_1 (by decide) rfl ?_
  refine wX1_wear_2 t1 ht1 t2 ht2 _ (fun μ3 h => ?_) FU 0 μ h
  exact rn_vret 51 dX1_wear_51 rfl h
def fX1_stir (a0 : Int32) (a1 : Int32) (μ : Mem) : Option (Int32) :=
  nm (((a0 ^^^ a1) * 1103515245) + 12345) fun x1 =>
  some (x1 ^^^ (ush x1 15))
set_option maxRecDepth 100000 in
theorem wX1_stir (a0 : Int32) (a1 : Int32) (μ : Mem) {res : Int32} (h : fX1_stir a0 a1 μ = some res) : Ct mX1_stir 1 NF NF [.int a0, .int a1] (μ, Rf0, NF) (QN (some (.int res)) μ Rf0 NF) := by
  unfold fX1_stir at h
  show RW mX1_stir 1 NF NF 0 [(0, .int a0), (1, .int a1)] [] (μ, Rf0, NF) (QN (some (.int res)) μ Rf0 NF)
  refine rw_iload_n 0 dX1_stir_0 0 rfl ?_
  refine rw_iload_n 1 dX1_stir_1 1 rfl ?_
  refine rw_ixor 2 dX1_stir_2 ?_
  refine rw_ldc 3 dX1_stir_3 lX1_133 ?_
  refine rw_imul 5 dX1_stir_5 ?_
  refine rw_sipush 6 (v := 12345) dX1_stir_6 (by decide) ?_
  refine rw_iadd 9 dX1_stir_9 ?_
  refine rn_ist_n 10 (fun x1 => [(0, .int a0), (1, .int a1), (2, .int x1)]) dX1_stir_10 (by decide) (fun _ => rfl) h (fun x1 h => ?_)
  refine rw_iload_n 11 dX1_stir_11 2 rfl ?_
  refine rw_iload_n 12 dX1_stir_12 2 rfl ?_
  refine rw_bipush 13 (v := 15) dX1_stir_13 (by decide) ?_
  refine rw_iushr 15 dX1_stir_15 ?_
  refine rw_ixor 16 dX1_stir_16 ?_
  exact rn_iret 17 dX1_stir_17 rfl h
def fX1_lot (a0 : Int32) (a1 : Int32) (μ : Mem) : Option (Int32) :=
  (fX1_stir a0 165 μ).bind fun q1 =>
  (fX1_stir q1 a1 μ).bind fun q2 =>
  some (irm (ush q2 1) 100)
set_option maxRecDepth 100000 in
theorem wX1_lot (a0 : Int32) (a1 : Int32) (μ : Mem) {res : Int32} (h : fX1_lot a0 a1 μ = some res) : Ct mX1_lot 2 NF NF [.int a0, .int a1] (μ, Rf0, NF) (QN (some (.int res)) μ Rf0 NF) := by
  unfold fX1_lot at h
  show RW mX1_lot 2 NF NF 0 [(0, .int a0), (1, .int a1)] [] (μ, Rf0, NF) (QN (some (.int res)) μ Rf0 NF)
  refine rw_iload_n 0 dX1_lot_0 0 rfl ?_
  refine rw_sipush 1 (v := 165) dX1_lot_1 (by decide) ?_
  refine rn_cSpi 4 [.int a0, .int 165] dX1_lot_4 caX1_stir lX1_130 stX1_stir rfl naX1_stir (Nat.le_of_ble_eq_true rfl) (Nat.le_of_ble_eq_true rfl) (by decide) (fun _ hq => wX1_stir a0 165 μ hq) h (fun q1 h => ?_)
  refine rw_iload_n 7 dX1_lot_7 1 rfl ?_
  refine rn_cSpi 8 [.int q1, .int a1] dX1_lot_8 caX1_stir lX1_130 stX1_stir rfl naX1_stir (Nat.le_of_ble_eq_true rfl) (Nat.le_of_ble_eq_true rfl) (by decide) (fun _ hq => wX1_stir q1 a1 μ hq) h (fun q2 h => ?_)
  refine rw_iconst 11 (v := 1) dX1_lot_11 (by decide) ?_
  refine rw_iushr 12 dX1_lot_12 ?_
  refine rw_bipush 13 (v := 100) dX1_lot_13 (by decide) ?_
  refine rw_irem 15 dX1_lot_15 (by decide) ?_
  exact rn_iret 16 dX1_lot_16 rfl h
def fX1_bury_3 (t1 : Nat) (t2 : Nat)  (v3 : Int32)  (K : Mem → Option (Mem)) : Nat → Int32 → Mem → Option (Mem)
  | 0, _, _ => none
  | n + 1, v4, μ =>
    if v4 < (μ.1 t1 3) then
      if inb v4 7 then
      nm ((μ.1 (t2 + 3) v4.toNatClampNeg) - (μ.1 t1 8)) fun x1 =>
      if x1 < 0 then
        fX1_bury_3 t1 t2 v3 K n (v4 + 1) μ
      else
        (fX5_whereIs t2 v4 μ).bind fun q2 =>
        if q2 = (-2) then
          fX1_bury_3 t1 t2 v3 K n (v4 + 1) μ
        else
          (fX1_lot v3 ((8 * (μ.1 t2 0)) + v4) μ).bind fun q3 =>
          if q3 < (x1 + 10) then
            nm (wI μ t2 2 ((μ.1 t2 2) ||| ((1 : Int32) <<< (v4 &&& 31)))) fun μ4 =>
            (fX5_takeOut t2 v4 μ4).bind fun q5 =>
            fX1_bury_3 t1 t2 v3 K n (v4 + 1) q5
          else
            fX1_bury_3 t1 t2 v3 K n (v4 + 1) μ
      else none
    else
      K μ
def fX1_bury (t1 : Nat) (t2 : Nat) (a3 : Int32) (μ : Mem) : Option (Mem) :=
  fX1_bury_3 t1 t2 a3 (fun μ6 =>
      some μ6
  ) FU 0 μ
set_option maxRecDepth 100000 in
theorem wX1_bury_3 (t1 : Nat) (ht1 : okX7 Rf0 NF t1) (t2 : Nat) (ht2 : okX5 Rf0 NF t2)  (v3 : Int32)  (K : Mem → Option (Mem)) {res : Mem} (hK : ∀  (μ : Mem), K μ = some res → RW mX1_bury 3 NF NF 89 [] [] (μ, Rf0, NF) (QN none res Rf0 NF)) : ∀ (n9 : Nat) (v4 : Int32) (μ : Mem), fX1_bury_3 t1 t2 v3 K n9 v4 μ = some res → RW mX1_bury 3 NF NF 3 [(1, .ref t1), (2, .ref t2), (3, .int v3), (4, .int v4)] [] (μ, Rf0, NF) (QN none res Rf0 NF) := by
  intro n9
  induction n9 with
  | zero => intro _ _ h; cases h
  | succ n ih =>
    intro v4 μ h
    unfold fX1_bury_3 at h
    refine rw_iload 3 dX1_bury_3 3 rfl ?_
    refine rw_aload_n 5 dX1_bury_5 0 rfl ?_
    refine rw_getI 6 7 3 kc7 dX1_bury_6 (o7l ht1) (o7n ht1) fX1_100 rfl ?_
    refine rn_icmp_ge 9 89 dX1_bury_9 (by decide) h (fun _ h => ?_) (fun _ h => ?_)
    · refine rw_pick 89 [] rfl ?_
      exact hK μ h
    · refine rw_aload_n 12 dX1_bury_12 1 rfl ?_
      refine rw_getR 13 5 6 kc5 dX1_bury_13 (o5l ht2) (o5n ht2) fX1_53 rfl (o5r6 ht2) ?_
      refine rw_iload 16 dX1_bury_16 3 rfl ?_
      refine rn_iald 18 dX1_bury_18 (o5l6 ht2) (o5n6 ht2) h (fun h => ?_)
      refine rw_aload_n 19 dX1_bury_19 0 rfl ?_
      refine rw_getI 20 7 8 kc7 dX1_bury_20 (o7l ht1) (o7n ht1) fX1_117 rfl ?_
      refine rw_isub 23 dX1_bury_23 ?_
      refine rn_ist 24 (fun x1 => [(1, .ref t1), (2, .ref t2), (3, .int v3), (4, .int v4), (5, .int x1)]) dX1_bury_24 (by decide) (fun _ => rfl) h (fun x1 h => ?_)
      refine rw_iload 26 dX1_bury_26 4 rfl ?_
      refine rn_if_lt 28 83 dX1_bury_28 (by decide) h (fun _ h => ?_) (fun _ h => ?_)
      · refine rw_iinc 83 [(1, .ref t1), (2, .ref t2), (3, .int v3), (4, .int (v4 + 1)), (5, .int x1)] dX1_bury_83 3 rfl rfl (by decide) rfl ?_
        refine rw_goto 86 3 dX1_bury_86 (by decide) ?_
        refine rw_pick 3 [0, 1, 2, 3] rfl ?_
        exact ih (v4 + 1) μ h
      · refine rw_aload_n 31 dX1_bury_31 1 rfl ?_
        refine rw_iload 32 dX1_bury_32 3 rfl ?_
        refine rn_cVpi 34 5 [.int v4] dX1_bury_34 caX5_whereIs lX1_20 inX5_whereIs slX5_whereIs rfl (o5l ht2) ⟨_, rfl, rfl⟩ (o5n ht2) naX5_whereIs (Nat.le_of_ble_eq_true rfl) (Nat.le_of_ble_eq_true rfl) (by decide) (fun _ hq => wX5_whereIs t2 ht2 v4 μ hq) h (fun q2 h => ?_)
        refine rw_bipush 37 (v := -2) dX1_bury_37 (by decide) ?_
        refine rn_icmp_eq 39 83 dX1_bury_39 (by decide) h (fun _ h => ?_) (fun _ h => ?_)
        · refine rw_iinc 83 [(1, .ref t1), (2, .ref t2), (3, .int v3), (4, .int (v4 + 1)), (5, .int x1)] dX1_bury_83 3 rfl rfl (by decide) rfl ?_
          refine rw_goto 86 3 dX1_bury_86 (by decide) ?_
          refine rw_pick 3 [0, 1, 2, 3] rfl ?_
          exact ih (v4 + 1) μ h
        · refine rw_iload_n 42 dX1_bury_42 2 rfl ?_
          refine rw_bipush 43 (v := 8) dX1_bury_43 (by decide) ?_
          refine rw_aload_n 45 dX1_bury_45 1 rfl ?_
          refine rw_getI 46 5 0 kc5 dX1_bury_46 (o5l ht2) (o5n ht2) fX1_73 rfl ?_
          refine rw_imul 49 dX1_bury_49 ?_
          refine rw_iload 50 dX1_bury_50 3 rfl ?_
          refine rw_iadd 52 dX1_bury_52 ?_
          refine rn_cSpi 53 [.int v3, .int ((8 * (μ.1 t2 0)) + v4)] dX1_bury_53 caX1_lot lX1_120 stX1_lot rfl naX1_lot (Nat.le_of_ble_eq_true rfl) (Nat.le_of_ble_eq_true rfl) (by decide) (fun _ hq => wX1_lot v3 ((8 * (μ.1 t2 0)) + v4) μ hq) h (fun q3 h => ?_)
          refine rw_iload 56 dX1_bury_56 4 rfl ?_
          refine rw_bipush 58 (v := 10) dX1_bury_58 (by decide) ?_
          refine rw_iadd 60 dX1_bury_60 ?_
          refine rn_icmp_ge 61 83 dX1_bury_61 (by decide) h (fun _ h => ?_) (fun _ h => ?_)
          · refine rw_iinc 83 [(1, .ref t1), (2, .ref t2), (3, .int v3), (4, .int (v4 + 1)), (5, .int x1)] dX1_bury_83 3 rfl rfl (by decide) rfl ?_
            refine rw_goto 86 3 dX1_bury_86 (by decide) ?_
            refine rw_pick 3 [0, 1, 2, 3] rfl ?_
            exact ih (v4 + 1) μ h
          · refine rw_aload_n 64 dX1_bury_64 1 rfl ?_
            refine rw_dup 65 dX1_bury_65 rfl ?_
            refine rw_getI 66 5 2 kc5 dX1_bury_66 (o5l ht2) (o5n ht2) fX1_123 rfl ?_
            refine rw_iconst 69 (v := 1) dX1_bury_69 (by decide) ?_
            refine rw_iload 70 dX1_bury_70 3 rfl ?_
            refine rw_ishl 72 dX1_bury_72 ?_
            refine rw_ior 73 dX1_bury_73 ?_
            refine rn_putI 74 5 2 kc5 dX1_bury_74 (o5l ht2) (o5n ht2) fX1_123 (fun q hq => by cases hq; rfl) rfl rfl rfl h (fun μ4 h => ?_)
            refine rw_aload_n 77 dX1_bury_77 1 rfl ?_
            refine rw_iload 78 dX1_bury_78 3 rfl ?_
            refine rn_cVmv 80 5 [.int v4] dX1_bury_80 caX5_takeOut lX1_126 inX5_takeOut slX5_takeOut rfl (o5l ht2) ⟨_, rfl, rfl⟩ (o5n ht2) naX5_takeOut (Nat.le_of_ble_eq_true rfl) (Nat.le_of_ble_eq_true rfl) (by decide) (fun _ hq => wX5_takeOut t2 ht2 v4 μ4 hq) h (fun q5 h => ?_)
            refine rw_iinc 83 [(1, .ref t1), (2, .ref t2), (3, .int v3), (4, .int (v4 + 1)), (5, .int x1)] dX1_bury_83 3 rfl rfl (by decide) rfl ?_
            refine rw_goto 86 3 dX1_bury_86 (by decide) ?_
            refine rw_pick 3 [0, 1, 2, 3] rfl ?_
            exact ih (v4 + 1) q5 h
set_option maxRecDepth 100000 in
theorem wX1_bury (t1 : Nat) (ht1 : okX7 Rf0 NF t1) (t2 : Nat) (ht2 : okX5 Rf0 NF t2) (a3 : Int32) (μ : Mem) {res : Mem} (h : fX1_bury t1 t2 a3 μ = some res) : Ct mX1_bury 3 NF NF [.ref 180, .ref t1, .ref t2, .int a3] (μ, Rf0, NF) (QN none res Rf0 NF) := by
  unfold fX1_bury at h
  show RW mX1_bury 3 NF NF 0 [(0, .ref 180), (1, .ref t1), (2, .ref t2), (3, .int a3)] [] (μ, Rf0, NF) (QN none res Rf0 NF)
  refine rw_iconst 0 (v := 0) dX1_bury_0 (by decide) ?_
  refine rw_istore 1 [(0, .ref 180), (1, .ref t1), (2, .ref t2), (3, .int a3), (4, .int 0)] dX1_bury_1 (by decide) rfl ?_
  refine rw_pick 3 [1, 2, 3, 4] rfl ?_
  refine wX1_bury_3 t1 ht1 t2 ht2 a3 _ (fun μ6 h => ?_) FU 0 μ h
  exact rn_vret 89 dX1_bury_89 rfl h
def fX1_passDeadlyWeeks_3 (t1 : Nat) (t2 : Nat)  (v3 : Int32) (v4 : Int32)  (K : Mem → Option (Mem)) : Nat → Int32 → Mem → Option (Mem)
  | 0, _, _ => none
  | n + 1, v5, μ =>
    if v5 < v3 then
      (fX1_payAndRest t1 t2 μ).bind fun q1 =>
      (fX1_wear t1 t2 q1).bind fun q2 =>
      (fX1_bury t1 t2 v4 q2).bind fun q3 =>
      nm (wI q3 t2 0 ((q3.1 t2 0) + 1)) fun μ4 =>
      fX1_passDeadlyWeeks_3 t1 t2 v3 v4 K n (v5 + 1) μ4
    else
      K μ
def fX1_passDeadlyWeeks (t1 : Nat) (t2 : Nat) (a3 : Int32) (a4 : Int32) (μ : Mem) : Option (Mem) :=
  fX1_passDeadlyWeeks_3 t1 t2 a3 a4 (fun μ5 =>
      some μ5
  ) FU 0 μ
set_option maxRecDepth 100000 in
theorem wX1_passDeadlyWeeks_3 (t1 : Nat) (ht1 : okX7 Rf0 NF t1) (t2 : Nat) (ht2 : okX5 Rf0 NF t2)  (v3 : Int32) (v4 : Int32)  (K : Mem → Option (Mem)) {res : Mem} (hK : ∀  (μ : Mem), K μ = some res → RW mX1_passDeadlyWeeks 6 NF NF 45 [] [] (μ, Rf0, NF) (QN none res Rf0 NF)) : ∀ (n9 : Nat) (v5 : Int32) (μ : Mem), fX1_passDeadlyWeeks_3 t1 t2 v3 v4 K n9 v5 μ = some res → RW mX1_passDeadlyWeeks 6 NF NF 3 [(0, .ref 180), (1, .ref t1), (2, .ref t2), (3, .int v3), (4, .int v4), (5, .int v5)] [] (μ, Rf0, NF) (QN none res Rf0 NF) := by
  intro n9
  induction n9 with
  | zero => intro _ _ h; cases h
  | succ n ih =>
    intro v5 μ h
    unfold fX1_passDeadlyWeeks_3 at h
    refine rw_iload 3 dX1_passDeadlyWeeks_3 5 rfl ?_
    refine rw_iload_n 5 dX1_passDeadlyWeeks_5 3 rfl ?_
    refine rn_icmp_ge 6 45 dX1_passDeadlyWeeks_6 (by decide) h (fun _ h => ?_) (fun _ h => ?_)
    · refine rw_pick 45 [] rfl ?_
      exact hK μ h
    · refine rw_aload_n 9 dX1_passDeadlyWeeks_9 0 rfl ?_
      refine rw_aload_n 10 dX1_passDeadlyWeeks_10 1 rfl ?_
      refine rw_aload_n 11 dX1_passDeadlyWeeks_11 2 rfl ?_
      refine rn_cVmv 12 1 [.ref t1, .ref t2] dX1_passDeadlyWeeks_12 caX1_payAndRest lX1_90 inX1_payAndRest slX1_payAndRest rfl ly_180 ⟨_, rfl, rfl⟩ rln_180 naX1_payAndRest (Nat.le_of_ble_eq_true rfl) (Nat.le_of_ble_eq_true rfl) (by decide) (fun _ hq => wX1_payAndRest t1 ht1 t2 ht2 μ hq) h (fun q1 h => ?_)
      refine rw_aload_n 15 dX1_passDeadlyWeeks_15 0 rfl ?_
      refine rw_aload_n 16 dX1_passDeadlyWeeks_16 1 rfl ?_
      refine rw_aload_n 17 dX1_passDeadlyWeeks_17 2 rfl ?_
      refine rn_cVmv 18 1 [.ref t1, .ref t2] dX1_passDeadlyWeeks_18 caX1_wear lX1_94 inX1_wear slX1_wear rfl ly_180 ⟨_, rfl, rfl⟩ rln_180 naX1_wear (Nat.le_of_ble_eq_true rfl) (Nat.le_of_ble_eq_true rfl) (by decide) (fun _ hq => wX1_wear t1 ht1 t2 ht2 q1 hq) h (fun q2 h => ?_)
      refine rw_aload_n 21 dX1_passDeadlyWeeks_21 0 rfl ?_
      refine rw_aload_n 22 dX1_passDeadlyWeeks_22 1 rfl ?_
      refine rw_aload_n 23 dX1_passDeadlyWeeks_23 2 rfl ?_
      refine rw_iload 24 dX1_passDeadlyWeeks_24 4 rfl ?_
      refine rn_cVmv 26 1 [.ref t1, .ref t2, .int v4] dX1_passDeadlyWeeks_26 caX1_bury lX1_97 inX1_bury slX1_bury rfl ly_180 ⟨_, rfl, rfl⟩ rln_180 naX1_bury (Nat.le_of_ble_eq_true rfl) (Nat.le_of_ble_eq_true rfl) (by decide) (fun _ hq => wX1_bury t1 ht1 t2 ht2 v4 q2 hq) h (fun q3 h => ?_)
      refine rw_aload_n 29 dX1_passDeadlyWeeks_29 2 rfl ?_
      refine rw_dup 30 dX1_passDeadlyWeeks_30 rfl ?_
      refine rw_getI 31 5 0 kc5 dX1_passDeadlyWeeks_31 (o5l ht2) (o5n ht2) fX1_73 rfl ?_
      refine rw_iconst 34 (v := 1) dX1_passDeadlyWeeks_34 (by decide) ?_
      refine rw_iadd 35 dX1_passDeadlyWeeks_35 ?_
      refine rn_putI 36 5 0 kc5 dX1_passDeadlyWeeks_36 (o5l ht2) (o5n ht2) fX1_73 (fun q hq => by cases hq; rfl) rfl rfl rfl h (fun μ4 h => ?_)
      refine rw_iinc 39 [(0, .ref 180), (1, .ref t1), (2, .ref t2), (3, .int v3), (4, .int v4), (5, .int (v5 + 1))] dX1_passDeadlyWeeks_39 5 rfl rfl (by decide) rfl ?_
      refine rw_goto 42 3 dX1_passDeadlyWeeks_42 (by decide) ?_
      exact ih (v5 + 1) μ4 h
set_option maxRecDepth 100000 in
theorem wX1_passDeadlyWeeks (t1 : Nat) (ht1 : okX7 Rf0 NF t1) (t2 : Nat) (ht2 : okX5 Rf0 NF t2) (a3 : Int32) (a4 : Int32) (μ : Mem) {res : Mem} (h : fX1_passDeadlyWeeks t1 t2 a3 a4 μ = some res) : Ct mX1_passDeadlyWeeks 6 NF NF [.ref 180, .ref t1, .ref t2, .int a3, .int a4] (μ, Rf0, NF) (QN none res Rf0 NF) := by
  unfold fX1_passDeadlyWeeks at h
  show RW mX1_passDeadlyWeeks 6 NF NF 0 [(0, .ref 180), (1, .ref t1), (2, .ref t2), (3, .int a3), (4, .int a4)] [] (μ, Rf0, NF) (QN none res Rf0 NF)
  refine rw_iconst 0 (v := 0) dX1_passDeadlyWeeks_0 (by decide) ?_
  refine rw_istore 1 [(0, .ref 180), (1, .ref t1), (2, .ref t2), (3, .int a3), (4, .int a4), (5, .int 0)] dX1_passDeadlyWeeks_1 (by decide) rfl ?_
  refine wX1_passDeadlyWeeks_3 t1 ht1 t2 ht2 a3 a4 _ (fun μ5 h => ?_) FU 0 μ h
  exact rn_vret 45 dX1_passDeadlyWeeks_45 rfl h
def fX10_weeks (a1 : Int32) (μ : Mem) : Option (Int32 × Mem) :=
  (fX10_isWeeks a1 μ).bind fun q1 =>
  if q1 = true then
    if 0 < a1 then
      (fX9_keep 9 μ).bind fun q2 =>
      (fX1_passDeadlyWeeks 199 9 a1 (q2.1 199 9) q2).bind fun q3 =>
      some ((q3.1 9 0), q3)
    else
      some ((μ.1 9 0), μ)
  else
    some ((-1), μ)
set_option maxRecDepth 100000 in
theorem wX10_weeks (a1 : Int32) (μ : Mem) {res : Int32 × Mem} (h : fX10_weeks a1 μ = some res) : Ct mX10_weeks 7 NF NF [.ref 0, .int a1] (μ, Rf0, NF) (QN (some (.int res.1)) res.2 Rf0 NF) := by
  unfold fX10_weeks at h
  show RW mX10_weeks 7 NF NF 0 [(0, .ref 0), (1, .int a1)] [] (μ, Rf0, NF) (QN (some (.int res.1)) res.2 Rf0 NF)
  refine rw_aload_n 0 dX10_weeks_0 0 rfl ?_
  refine rw_iload_n 1 dX10_weeks_1 1 rfl ?_
  refine rn_cVpb 2 10 [.int a1] dX10_weeks_2 caX10_isWeeks lX10_182 inX10_isWeeks slX10_isWeeks rfl ly_0 ⟨_, rfl, rfl⟩ rln_0 naX10_isWeeks (Nat.le_of_ble_eq_true rfl) (Nat.le_of_ble_eq_true rfl) (by decide) (fun _ hq => wX10_isWeeks a1 μ hq) h (fun q1 h => ?_)
  refine rn_ifb_ne 5 10 dX10_weeks_5 (by decide) h (fun _ h => ?_) (fun _ h => ?_)
  · refine rw_iload_n 10 dX10_weeks_10 1 rfl ?_
    refine rn_if_le 11 48 dX10_weeks_11 (by decide) h (fun _ h => ?_) (fun _ h => ?_)
    · refine rw_aload_n 48 dX10_weeks_48 0 rfl ?_
      refine rw_getR 49 10 2 kc10 dX10_weeks_49 ly_0 rln_0 fX10_26 rfl rf_0_2 ?_
      refine rw_getI 52 5 0 kc5 dX10_weeks_52 ly_9 rln_9 fX10_192 rfl ?_
      exact rn_iret2 55 dX10_weeks_55 rfl h
    · refine rw_aload_n 14 dX10_weeks_14 0 rfl ?_
      refine rw_getR 15 10 4 kc10 dX10_weeks_15 ly_0 rln_0 fX10_36 rfl rf_0_4 ?_
      refine rw_aload_n 18 dX10_weeks_18 0 rfl ?_
      refine rw_getR 19 10 2 kc10 dX10_weeks_19 ly_0 rln_0 fX10_26 rfl rf_0_2 ?_
      refine rn_cVmv 22 9 [.ref 9] dX10_weeks_22 caX9_keep lX10_169 inX9_keep slX9_keep rfl ly_17 ⟨_, rfl, rfl⟩ rln_17 naX9_keep (Nat.le_of_ble_eq_true rfl) (Nat.le_of_ble_eq_true rfl) (by decide) (fun _ hq => wX9_keep 9 okX5_9 μ hq) h (fun q2 h => ?_)
      refine rw_aload_n 25 dX10_weeks_25 0 rfl ?_
      refine rw_getR 26 10 6 kc10 dX10_weeks_26 ly_0 rln_0 fX10_47 rfl rf_0_6 ?_
      refine rw_aload_n 29 dX10_weeks_29 0 rfl ?_
      refine rw_getR 30 10 9 kc10 dX10_weeks_30 ly_0 rln_0 fX10_68 rfl rf_0_9 ?_
      refine rw_aload_n 33 dX10_weeks_33 0 rfl ?_
      refine rw_getR 34 10 2 kc10 dX10_weeks_34 ly_0 rln_0 fX10_26 rfl rf_0_2 ?_
      refine rw_iload_n 37 dX10_weeks_37 1 rfl ?_
      refine rw_aload_n 38 dX10_weeks_38 0 rfl ?_
      refine rw_getR 39 10 9 kc10 dX10_weeks_39 ly_0 rln_0 fX10_68 rfl rf_0_9 ?_
      refine rw_getI 42 7 9 kc7 dX10_weeks_42 ly_199 rln_199 fX10_185 rfl ?_
      refine rn_cVmv 45 1 [.ref 199, .ref 9, .int a1, .int (q2.1 199 9)] dX10_weeks_45 caX1_passDeadlyWeeks lX10_188 inX1_passDeadlyWeeks slX1_passDeadlyWeeks rfl ly_180 ⟨_, rfl, rfl⟩ rln_180 naX1_passDeadlyWeeks (Nat.le_of_ble_eq_true rfl) (Nat.le_of_ble_eq_true rfl) (by decide) (fun _ hq => wX1_passDeadlyWeeks 199 okX7_199 9 okX5_9 a1 (q2.1 199 9) q2 hq) h (fun q3 h => ?_)
      refine rw_aload_n 48 dX10_weeks_48 0 rfl ?_
      refine rw_getR 49 10 2 kc10 dX10_weeks_49 ly_0 rln_0 fX10_26 rfl rf_0_2 ?_
      refine rw_getI 52 5 0 kc5 dX10_weeks_52 ly_9 rln_9 fX10_192 rfl ?_
      exact rn_iret2 55 dX10_weeks_55 rfl h
  · refine rw_iconst 8 (v := -1) dX10_weeks_8 (by decide) ?_
    exact rn_iret2 9 dX10_weeks_9 rfl h
def fX9_takeBack (t1 : Nat) (μ : Mem) : Option (Bool × Mem) :=
  if (μ.1 17 0) = 0 then
    some (false, μ)
  else
    nm (wI μ 17 2 (irm (((μ.1 17 2) + 40) - 1) 40)) fun μ1 =>
    if inb (μ1.1 17 2) 40 then
    (fX5_copyFrom t1 (19 + 4 * (μ1.1 17 2).toNatClampNeg) μ1).bind fun q3 =>
    nm (wI q3 17 0 ((q3.1 17 0) - 1)) fun μ4 =>
    some (true, μ4)
    else none
set_option maxRecDepth 100000 in
theorem wX9_takeBack (t1 : Nat) (ht1 : okX5 Rf0 NF t1) (μ : Mem) {res : Bool × Mem} (h : fX9_takeBack t1 μ = some res) : Ct mX9_takeBack 2 NF NF [.ref 17, .ref t1] (μ, Rf0, NF) (QN (some (.int (b2i res.1))) res.2 Rf0 NF) := by
  unfold fX9_takeBack at h
  show RW mX9_takeBack 2 NF NF 0 [(0, .ref 17), (1, .ref t1)] [] (μ, Rf0, NF) (QN (some (.int (b2i res.1))) res.2 Rf0 NF)
  refine rw_aload_n 0 dX9_takeBack_0 0 rfl ?_
  refine rw_getI 1 9 0 kc9 dX9_takeBack_1 ly_17 rln_17 fX9_9 rfl ?_
  refine rn_if_ne 4 9 dX9_takeBack_4 (by decide) h (fun _ h => ?_) (fun _ h => ?_)
  · refine rw_aload_n 9 dX9_takeBack_9 0 rfl ?_
    refine rw_aload_n 10 dX9_takeBack_10 0 rfl ?_
    refine rw_getI 11 9 2 kc9 dX9_takeBack_11 ly_17 rln_17 fX9_21 rfl ?_
    refine rw_bipush 14 (v := 40) dX9_takeBack_14 (by decide) ?_
    refine rw_iadd 16 dX9_takeBack_16 ?_
    refine rw_iconst 17 (v := 1) dX9_takeBack_17 (by decide) ?_
    refine rw_isub 18 dX9_takeBack_18 ?_
    refine rw_bipush 19 (v := 40) dX9_takeBack_19 (by decide) ?_
    refine rw_irem 21 dX9_takeBack_21 (by decide) ?_
    refine rn_putI 22 9 2 kc9 dX9_takeBack_22 ly_17 rln_17 fX9_21 (fun q hq => by cases hq; rfl) rfl rfl rfl h (fun μ1 h => ?_)
    refine rw_aload_n 25 dX9_takeBack_25 1 rfl ?_
    refine rw_aload_n 26 dX9_takeBack_26 0 rfl ?_
    refine rw_getR 27 9 1 kc9 dX9_takeBack_27 ly_17 rln_17 fX9_17 rfl rf_17_1 ?_
    refine rw_aload_n 30 dX9_takeBack_30 0 rfl ?_
    refine rw_getI 31 9 2 kc9 dX9_takeBack_31 ly_17 rln_17 fX9_21 rfl ?_
    refine rn_aald 34 4 (by decide) dX9_takeBack_34 ly_18 rln_18 h (fun hi2 => (rfr_18 _ (inb_lt hi2))) (fun hi2 h => ?_)
    refine rn_cVmv 35 5 [.ref (19 + 4 * (μ1.1 17 2).toNatClampNeg)] dX9_takeBack_35 caX5_copyFrom lX9_25 inX5_copyFrom slX5_copyFrom rfl (o5l ht1) ⟨_, rfl, rfl⟩ (o5n ht1) naX5_copyFrom (Nat.le_of_ble_eq_true rfl) (Nat.le_of_ble_eq_true rfl) (by decide) (fun _ hq => wX5_copyFrom t1 ht1 (19 + 4 * (μ1.1 17 2).toNatClampNeg) (okr_18 _ (inb_lt hi2)) μ1 hq) h (fun q3 h => ?_)
    refine rw_aload_n 38 dX9_takeBack_38 0 rfl ?_
    refine rw_dup 39 dX9_takeBack_39 rfl ?_
    refine rw_getI 40 9 0 kc9 dX9_takeBack_40 ly_17 rln_17 fX9_9 rfl ?_
    refine rw_iconst 43 (v := 1) dX9_takeBack_43 (by decide) ?_
    refine rw_isub 44 dX9_takeBack_44 ?_
    refine rn_putI 45 9 0 kc9 dX9_takeBack_45 ly_17 rln_17 fX9_9 (fun q hq => by cases hq; rfl) rfl rfl rfl h (fun μ4 h => ?_)
    refine rw_iconst 48 (v := 1) dX9_takeBack_48 (by decide) ?_
    exact rn_zret2 49 (v := true) dX9_takeBack_49 rfl h
  · refine rw_iconst 7 (v := 0) dX9_takeBack_7 (by decide) ?_
    exact rn_zret2 8 (v := false) dX9_takeBack_8 rfl h
def fX10_undo  (μ : Mem) : Option (Bool × Mem) :=
  (fX9_takeBack 9 μ).bind fun q1 =>
  some (q1.1, q1.2)
set_option maxRecDepth 100000 in
theorem wX10_undo  (μ : Mem) {res : Bool × Mem} (h : fX10_undo  μ = some res) : Ct mX10_undo 3 NF NF [.ref 0] (μ, Rf0, NF) (QN (some (.int (b2i res.1))) res.2 Rf0 NF) := by
  unfold fX10_undo at h
  show RW mX10_undo 3 NF NF 0 [(0, .ref 0)] [] (μ, Rf0, NF) (QN (some (.int (b2i res.1))) res.2 Rf0 NF)
  refine rw_aload_n 0 dX10_undo_0 0 rfl ?_
  refine rw_getR 1 10 4 kc10 dX10_undo_1 ly_0 rln_0 fX10_36 rfl rf_0_4 ?_
  refine rw_aload_n 4 dX10_undo_4 0 rfl ?_
  refine rw_getR 5 10 2 kc10 dX10_undo_5 ly_0 rln_0 fX10_26 rfl rf_0_2 ?_
  refine rn_cVmb 8 9 [.ref 9] dX10_undo_8 caX9_takeBack lX10_195 inX9_takeBack slX9_takeBack rfl ly_17 ⟨_, rfl, rfl⟩ rln_17 naX9_takeBack (Nat.le_of_ble_eq_true rfl) (Nat.le_of_ble_eq_true rfl) (by decide) (fun _ hq => wX9_takeBack 9 okX5_9 μ hq) h (fun q1 h => ?_)
  exact rn_zret2 11 (v := q1.1) dX10_undo_11 rfl h
def fX10_isOneOfTwo (a1 : Int32) (μ : Mem) : Option (Bool) :=
  if a1 = 0 then
    some true
  else
    if a1 = 1 then
      some true
    else
      some false
set_option maxRecDepth 100000 in
theorem wX10_isOneOfTwo (a1 : Int32) (μ : Mem) {res : Bool} (h : fX10_isOneOfTwo a1 μ = some res) : Ct mX10_isOneOfTwo 1 NF NF [.ref 0, .int a1] (μ, Rf0, NF) (QN (some (.int (b2i res))) μ Rf0 NF) := by
  unfold fX10_isOneOfTwo at h
  show RW mX10_isOneOfTwo 1 NF NF 0 [(0, .ref 0), (1, .int a1)] [] (μ, Rf0, NF) (QN (some (.int (b2i res))) μ Rf0 NF)
  refine rw_iload_n 0 dX10_isOneOfTwo_0 1 rfl ?_
  refine rn_if_eq 1 9 dX10_isOneOfTwo_1 (by decide) h (fun _ h => ?_) (fun _ h => ?_)
  · refine rw_iconst 9 (v := 1) dX10_isOneOfTwo_9 (by decide) ?_
    refine rw_goto 10 14 dX10_isOneOfTwo_10 (by decide) ?_
    exact rn_zret 14 (v := true) dX10_isOneOfTwo_14 rfl h
  · refine rw_iload_n 4 dX10_isOneOfTwo_4 1 rfl ?_
    refine rw_iconst 5 (v := 1) dX10_isOneOfTwo_5 (by decide) ?_
    refine rn_icmp_ne 6 13 dX10_isOneOfTwo_6 (by decide) h (fun _ h => ?_) (fun _ h => ?_)
    · refine rw_iconst 13 (v := 0) dX10_isOneOfTwo_13 (by decide) ?_
      exact rn_zret 14 (v := false) dX10_isOneOfTwo_14 rfl h
    · refine rw_iconst 9 (v := 1) dX10_isOneOfTwo_9 (by decide) ?_
      refine rw_goto 10 14 dX10_isOneOfTwo_10 (by decide) ?_
      exact rn_zret 14 (v := true) dX10_isOneOfTwo_14 rfl h
def fX3_livingFit_5 (t0 : Nat) (t1 : Nat)  (v2 : Int32) (μ : Mem) (K : Int32 → Option (Int32)) : Nat → Int32 → Int32 → Option (Int32)
  | 0, _, _ => none
  | n + 1, v3, v4 =>
    if v4 < (μ.1 t0 3) then
      (fX5_isDead t1 v4 μ).bind fun q1 =>
      if q1 = true then
        fX3_livingFit_5 t0 t1 v2 μ K n v3 (v4 + 1)
      else
        (fX5_isSold t1 v2 μ).bind fun q2 =>
        if q2 = true then
          fX3_livingFit_5 t0 t1 v2 μ K n v3 (v4 + 1)
        else
          (fX7_isLongEnough t0 v2 v4 μ).bind fun q3 =>
          if q3 = true then
            nm (v3 ||| ((1 : Int32) <<< (v4 &&& 31))) fun x4 =>
            fX3_livingFit_5 t0 t1 v2 μ K n x4 (v4 + 1)
          else
            fX3_livingFit_5 t0 t1 v2 μ K n v3 (v4 + 1)
    else
      K v3
def fX3_livingFit (t0 : Nat) (t1 : Nat) (a2 : Int32) (μ : Mem) : Option (Int32) :=
  fX3_livingFit_5 t0 t1 a2 μ (fun y5 =>
      some y5
  ) FU 0 0
set_option maxRecDepth 100000 in
theorem wX3_livingFit_5 (t0 : Nat) (ht0 : okX7 Rf0 NF t0) (t1 : Nat) (ht1 : okX5 Rf0 NF t1)  (v2 : Int32) (μ : Mem) (K : Int32 → Option (Int32)) {res : Int32} (hK : ∀ (v3 : Int32), K v3 = some res → RW mX3_livingFit 2 NF NF 54 [(3, .int v3)] [] (μ, Rf0, NF) (QN (some (.int res)) μ Rf0 NF)) : ∀ (n9 : Nat) (v3 : Int32) (v4 : Int32), fX3_livingFit_5 t0 t1 v2 μ K n9 v3 v4 = some res → RW mX3_livingFit 2 NF NF 5 [(0, .ref t0), (1, .ref t1), (2, .int v2), (3, .int v3), (4, .int v4)] [] (μ, Rf0, NF) (QN (some (.int res)) μ Rf0 NF) := by
  intro n9
  induction n9 with
  | zero => intro _ _ h; cases h
  | succ n ih =>
    intro v3 v4 h
    unfold fX3_livingFit_5 at h
    refine rw_iload 5 dX3_livingFit_5 4 rfl ?_
    refine rw_aload_n 7 dX3_livingFit_7 0 rfl ?_
    refine rw_getI 8 7 3 kc7 dX3_livingFit_8 (o7l ht0) (o7n ht0) fX3_27 rfl ?_
    refine rn_icmp_ge 11 54 dX3_livingFit_11 (by decide) h (fun _ h => ?_) (fun _ h => ?_)
    · refine rw_pick 54 [3] rfl ?_
      exact hK v3 h
    · refine rw_aload_n 14 dX3_livingFit_14 1 rfl ?_
      refine rw_iload 15 dX3_livingFit_15 4 rfl ?_
      refine rn_cVpb 17 5 [.int v4] dX3_livingFit_17 caX5_isDead lX3_49 inX5_isDead slX5_isDead rfl (o5l ht1) ⟨_, rfl, rfl⟩ (o5n ht1) naX5_isDead (Nat.le_of_ble_eq_true rfl) (Nat.le_of_ble_eq_true rfl) (by decide) (fun _ hq => wX5_isDead t1 ht1 v4 μ hq) h (fun q1 h => ?_)
      refine rn_ifb_ne 20 48 dX3_livingFit_20 (by decide) h (fun _ h => ?_) (fun _ h => ?_)
      · refine rw_iinc 48 [(0, .ref t0), (1, .ref t1), (2, .int v2), (3, .int v3), (4, .int (v4 + 1))] dX3_livingFit_48 4 rfl rfl (by decide) rfl ?_
        refine rw_goto 51 5 dX3_livingFit_51 (by decide) ?_
        exact ih v3 (v4 + 1) h
      · refine rw_aload_n 23 dX3_livingFit_23 1 rfl ?_
        refine rw_iload_n 24 dX3_livingFit_24 2 rfl ?_
        refine rn_cVpb 25 5 [.int v2] dX3_livingFit_25 caX5_isSold lX3_55 inX5_isSold slX5_isSold rfl (o5l ht1) ⟨_, rfl, rfl⟩ (o5n ht1) naX5_isSold (Nat.le_of_ble_eq_true rfl) (Nat.le_of_ble_eq_true rfl) (by decide) (fun _ hq => wX5_isSold t1 ht1 v2 μ hq) h (fun q2 h => ?_)
        refine rn_ifb_ne 28 48 dX3_livingFit_28 (by decide) h (fun _ h => ?_) (fun _ h => ?_)
        · refine rw_iinc 48 [(0, .ref t0), (1, .ref t1), (2, .int v2), (3, .int v3), (4, .int (v4 + 1))] dX3_livingFit_48 4 rfl rfl (by decide) rfl ?_
          refine rw_goto 51 5 dX3_livingFit_51 (by decide) ?_
          exact ih v3 (v4 + 1) h
        · refine rw_aload_n 31 dX3_livingFit_31 0 rfl ?_
          refine rw_iload_n 32 dX3_livingFit_32 2 rfl ?_
          refine rw_iload 33 dX3_livingFit_33 4 rfl ?_
          refine rn_cVpb 35 7 [.int v2, .int v4] dX3_livingFit_35 caX7_isLongEnough lX3_58 inX7_isLongEnough slX7_isLongEnough rfl (o7l ht0) ⟨_, rfl, rfl⟩ (o7n ht0) naX7_isLongEnough (Nat.le_of_ble_eq_true rfl) (Nat.le_of_ble_eq_true rfl) (by decide) (fun _ hq => wX7_isLongEnough t0 ht0 v2 v4 μ hq) h (fun q3 h => ?_)
          refine rn_ifb_eq 38 48 dX3_livingFit_38 (by decide) h (fun _ h => ?_) (fun _ h => ?_)
          · refine rw_iinc 48 [(0, .ref t0), (1, .ref t1), (2, .int v2), (3, .int v3), (4, .int (v4 + 1))] dX3_livingFit_48 4 rfl rfl (by decide) rfl ?_
            refine rw_goto 51 5 dX3_livingFit_51 (by decide) ?_
            exact ih v3 (v4 + 1) h
          · refine rw_iload_n 41 dX3_livingFit_41 3 rfl ?_
            refine rw_iconst 42 (v := 1) dX3_livingFit_42 (by decide) ?_
            refine rw_iload 43 dX3_livingFit_43 4 rfl ?_
            refine rw_ishl 45 dX3_livingFit_45 ?_
            refine rw_ior 46 dX3_livingFit_46 ?_
            refine rn_ist_n 47 (fun x4 => [(0, .ref t0), (1, .ref t1), (2, .int v2), (3, .int x4), (4, .int v4)]) dX3_livingFit_47 (by decide) (fun _ => rfl) h (fun x4 h => ?_)
            refine rw_iinc 48 [(0, .ref t0), (1, .ref t1), (2, .int v2), (3, .int x4), (4, .int (v4 + 1))] dX3_livingFit_48 4 rfl rfl (by decide) rfl ?_
            refine rw_goto 51 5 dX3_livingFit_51 (by decide) ?_
            exact ih x4 (v4 + 1) h
set_option maxRecDepth 100000 in
theorem wX3_livingFit (t0 : Nat) (ht0 : okX7 Rf0 NF t0) (t1 : Nat) (ht1 : okX5 Rf0 NF t1) (a2 : Int32) (μ : Mem) {res : Int32} (h : fX3_livingFit t0 t1 a2 μ = some res) : Ct mX3_livingFit 2 NF NF [.ref t0, .ref t1, .int a2] (μ, Rf0, NF) (QN (some (.int res)) μ Rf0 NF) := by
  unfold fX3_livingFit at h
  show RW mX3_livingFit 2 NF NF 0 [(0, .ref t0), (1, .ref t1), (2, .int a2)] [] (μ, Rf0, NF) (QN (some (.int res)) μ Rf0 NF)
  refine rw_iconst 0 (v := 0) dX3_livingFit_0 (by decide) ?_
  refine rw_istore_n 1 [(0, .ref t0), (1, .ref t1), (2, .int a2), (3, .int 0)] dX3_livingFit_1 (by decide) rfl ?_
  refine rw_iconst 2 (v := 0) dX3_livingFit_2 (by decide) ?_
  refine rw_istore 3 [(0, .ref t0), (1, .ref t1), (2, .int a2), (3, .int 0), (4, .int 0)] dX3_livingFit_3 (by decide) rfl ?_
  refine wX3_livingFit_5 t0 ht0 t1 ht1 a2 μ _ (fun y5 h => ?_) FU 0 0 h
  refine rw_iload_n 54 dX3_livingFit_54 0 rfl ?_
  exact rn_iret 55 dX3_livingFit_55 rfl h
def fX3_valueSets_12 (t2 : Nat) (t3 : Nat)  (v4 : Int32) (v5 : Int32)  (K : Mem → Option (Mem)) : Nat → Int32 → Mem → Option (Mem)
  | 0, _, _ => none
  | n + 1, v6, μ =>
    if v6 < (μ.1 t2 3) then
      if ((v5 >>> (v6 &&& 31)) &&& 1) = 1 then
        (fX1_ofGuest 0 t2 t3 v6 v4 0 μ).bind fun q3 =>
        if inb v6 7 then nm (wI q3.2 195 v6.toNatClampNeg q3.1) fun μ4 =>
        fX3_valueSets_12 t2 t3 v4 v5 K n (v6 + 1) μ4
        else none
      else
        if inb v6 7 then nm (wI μ 195 v6.toNatClampNeg 0) fun μ2 =>
        fX3_valueSets_12 t2 t3 v4 v5 K n (v6 + 1) μ2
        else none
    else
      K μ
def fX3_valueSets_j114_78 (t2 : Nat) (t3 : Nat) (r6 : Nat) (KB : Int32 → Mem → Option (Mem)) (K : Mem → Option (Mem)) (v5 : Int32) (v7 : Int32) (s0 : Int32) (μ : Mem) : Option (Mem) :=
  if s0 = 0 then
    if inb v7 128 then nm (wI μ r6 v7.toNatClampNeg (-1)) fun μ8 =>
    KB (v7 + 1) μ8
    else none
  else
    if inb (v7 &&& (v7 - 1)) 128 then
    (fJ6_numberOfTrailingZeros_0f7a4 v7 μ).bind fun q9 =>
    if inb q9 7 then
    if inb v7 128 then nm (wI μ r6 v7.toNatClampNeg ((μ.1 r6 (v7 &&& (v7 - 1)).toNatClampNeg) + (μ.1 195 q9.toNatClampNeg))) fun μ10 =>
    KB (v7 + 1) μ10
    else none
    else none
    else none
def fX3_valueSets_78 (t2 : Nat) (t3 : Nat) (r6 : Nat) (v5 : Int32)  (K : Mem → Option (Mem)) : Nat → Int32 → Mem → Option (Mem)
  | 0, _, _ => none
  | n + 1, v7, μ =>
    if v7 < ((1 : Int32) <<< ((μ.1 t2 3) &&& 31)) then
      if (v7 &&& (v5 ^^^ (-1))) = 0 then
        if inb v7 128 then
        if (μ.1 (t2 + 12) v7.toNatClampNeg) = 0 then
          fX3_valueSets_j114_78 t2 t3 r6 (fun z0 zm => fX3_valueSets_78 t2 t3 r6 v5 K n z0 zm) K v5 v7 0 μ
        else
          fX3_valueSets_j114_78 t2 t3 r6 (fun z0 zm => fX3_valueSets_78 t2 t3 r6 v5 K n z0 zm) K v5 v7 1 μ
        else none
      else
        fX3_valueSets_j114_78 t2 t3 r6 (fun z0 zm => fX3_valueSets_78 t2 t3 r6 v5 K n z0 zm) K v5 v7 0 μ
    else
      K μ
def fX3_valueSets (t2 : Nat) (t3 : Nat) (a4 : Int32) (μ : Mem) : Option (Mem) :=
  (fX3_livingFit t2 t3 a4 μ).bind fun q1 =>
  fX3_valueSets_12 t2 t3 a4 q1 (fun μ5 =>
      if inb a4 4 then
      nm (wI μ5 (185 + a4.toNatClampNeg) 0 0) fun μ7 =>
      fX3_valueSets_78 t2 t3 (185 + a4.toNatClampNeg) q1 (fun μ11 =>
          some μ11
      ) FU 1 μ7
      else none
  ) FU 0 μ
set_option maxRecDepth 100000 in
theorem wX3_valueSets_12 (t2 : Nat) (ht2 : okX7 Rf0 NF t2) (t3 : Nat) (ht3 : okX5 Rf0 NF t3)  (v4 : Int32) (v5 : Int32)  (K : Mem → Option (Mem)) {res : Mem} (hK : ∀  (μ : Mem), K μ = some res → RW mX3_valueSets 5 NF NF 61 [(0, .ref 183), (2, .ref t2), (4, .int v4), (5, .int v5)] [] (μ, Rf0, NF) (QN none res Rf0 NF)) : ∀ (n9 : Nat) (v6 : Int32) (μ : Mem), fX3_valueSets_12 t2 t3 v4 v5 K n9 v6 μ = some res → RW mX3_valueSets 5 NF NF 12 [(0, .ref 183), (1, .ref 180), (2, .ref t2), (3, .ref t3), (4, .int v4), (5, .int v5), (6, .int v6)] [] (μ, Rf0, NF) (QN none res Rf0 NF) := by
  intro n9
  induction n9 with
  | zero => intro _ _ h; cases h
  | succ n ih =>
    intro v6 μ h
    unfold fX3_valueSets_12 at h
    refine rw_iload 12 dX3_valueSets_12 6 rfl ?_
    refine rw_aload_n 14 dX3_valueSets_14 2 rfl ?_
    refine rw_getI 15 7 3 kc7 dX3_valueSets_15 (o7l ht2) (o7n ht2) fX3_27 rfl ?_
    refine rn_icmp_ge 18 61 dX3_valueSets_18 (by decide) h (fun _ h => ?_) (fun _ h => ?_)
    · refine rw_pick 61 [0, 2, 4, 5] rfl ?_
      exact hK μ h
    · refine rw_aload_n 21 dX3_valueSets_21 0 rfl ?_
      refine rw_getR 22 3 2 kc3 dX3_valueSets_22 ly_183 rln_183 fX3_19 rfl rf_183_2 ?_
      refine rw_iload 25 dX3_valueSets_25 6 rfl ?_
      refine rw_iload 27 dX3_valueSets_27 5 rfl ?_
      refine rw_iload 29 dX3_valueSets_29 6 rfl ?_
      refine rw_ishr 31 dX3_valueSets_31 ?_
      refine rw_iconst 32 (v := 1) dX3_valueSets_32 (by decide) ?_
      refine rw_iand 33 dX3_valueSets_33 ?_
      refine rw_iconst 34 (v := 1) dX3_valueSets_34 (by decide) ?_
      refine rn_icmp_ne 35 53 dX3_valueSets_35 (by decide) h (fun _ h => ?_) (fun _ h => ?_)
      · refine rw_iconst 53 (v := 0) dX3_valueSets_53 (by decide) ?_
        refine rn_iast 54 dX3_valueSets_54 ly_195 rln_195 h (fun μ2 h => ?_)
        refine rw_iinc 55 [(0, .ref 183), (1, .ref 180), (2, .ref t2), (3, .ref t3), (4, .int v4), (5, .int v5), (6, .int (v6 + 1))] dX3_valueSets_55 6 rfl rfl (by decide) rfl ?_
        refine rw_goto 58 12 dX3_valueSets_58 (by decide) ?_
        exact ih (v6 + 1) μ2 h
      · refine rw_aload_n 38 dX3_valueSets_38 1 rfl ?_
        refine rw_iconst 39 (v := 0) dX3_valueSets_39 (by decide) ?_
        refine rw_aload_n 40 dX3_valueSets_40 2 rfl ?_
        refine rw_aload_n 41 dX3_valueSets_41 3 rfl ?_
        refine rw_iload 42 dX3_valueSets_42 6 rfl ?_
        refine rw_iload 44 dX3_valueSets_44 4 rfl ?_
        refine rw_iconst 46 (v := 0) dX3_valueSets_46 (by decide) ?_
        refine rn_cVmi 47 1 [.int 0, .ref t2, .ref t3, .int v6, .int v4, .int 0] dX3_valueSets_47 caX1_ofGuest lX3_33 inX1_ofGuest slX1_ofGuest rfl ly_180 ⟨_, rfl, rfl⟩ rln_180 naX1_ofGuest (Nat.le_of_ble_eq_true rfl) (Nat.le_of_ble_eq_true rfl) (by decide) (fun _ hq => wX1_ofGuest 0 t2 ht2 t3 ht3 v6 v4 0 μ hq) h (fun q3 h => ?_)
        refine rw_goto 50 54 dX3_valueSets_50 (by decide) ?_
        refine rn_iast 54 dX3_valueSets_54 ly_195 rln_195 h (fun μ4 h => ?_)
        refine rw_iinc 55 [(0, .ref 183), (1, .ref 180), (2, .ref t2), (3, .ref t3), (4, .int v4), (5, .int v5), (6, .int (v6 + 1))] dX3_valueSets_55 6 rfl rfl (by decide) rfl ?_
        refine rw_goto 58 12 dX3_valueSets_58 (by decide) ?_
        exact ih (v6 + 1) μ4 h
set_option maxRecDepth 100000 in
theorem wX3_valueSets_j114_78 (t2 : Nat) (ht2 : okX7 Rf0 NF t2) (t3 : Nat) (ht3 : okX5 Rf0 NF t3) (r6 : Nat) (hl6 : lay r6 = .inr (0, 128)) (hn6 : r6 < NF) {res : Mem} (v5 : Int32) (v7 : Int32) (s0 : Int32) (μ : Mem) (KB : Int32 → Mem → Option (Mem)) (hB : ∀ (u7 : Int32) (um : Mem), KB u7 um = some res → RW mX3_valueSets 5 NF NF 78 [(0, .ref 183), (2, .ref t2), (5, .int v5), (6, .ref r6), (7, .int u7)] [] (um, Rf0, NF) (QN none res Rf0 NF)) (K : Mem → Option (Mem)) (hK : ∀ (um : Mem), K um = some res → RW mX3_valueSets 5 NF NF 157 [] [] (um, Rf0, NF) (QN none res Rf0 NF)) (h : fX3_valueSets_j114_78 t2 t3 r6 KB K v5 v7 s0 μ = some res) : RW mX3_valueSets 5 NF NF 114 [(0, .ref 183), (2, .ref t2), (5, .int v5), (6, .ref r6), (7, .int v7)] [.int s0] (μ, Rf0, NF) (QN none res Rf0 NF) := by
  unfold fX3_valueSets_j114_78 at h
  refine rw_istore 114 [(0, .ref 183), (2, .ref t2), (5, .int v5), (6, .ref r6), (7, .int v7), (8, .int s0)] dX3_valueSets_114 (by decide) rfl ?_
  refine rw_aload 116 dX3_valueSets_116 3 rfl ?_
  refine rw_iload 118 dX3_valueSets_118 4 rfl ?_
  refine rw_iload 120 dX3_valueSets_120 5 rfl ?_
  refine rn_if_eq 122 149 dX3_valueSets_122 (by decide) h (fun _ h => ?_) (fun _ h => ?_)
  · refine rw_iconst 149 (v := -1) dX3_valueSets_149 (by decide) ?_
    refine rn_iast 150 dX3_valueSets_150 hl6 hn6 h (fun μ8 h => ?_)
    refine rw_iinc 151 [(0, .ref 183), (2, .ref t2), (5, .int v5), (6, .ref r6), (7, .int (v7 + 1)), (8, .int s0)] dX3_valueSets_151 4 rfl rfl (by decide) rfl ?_
    refine rw_goto 154 78 dX3_valueSets_154 (by decide) ?_
    refine rw_pick 78 [0, 1, 2, 3, 4] rfl ?_
    exact hB (v7 + 1) μ8 h
  · refine rw_aload 125 dX3_valueSets_125 3 rfl ?_
    refine rw_iload 127 dX3_valueSets_127 4 rfl ?_
    refine rw_iload 129 dX3_valueSets_129 4 rfl ?_
    refine rw_iconst 131 (v := 1) dX3_valueSets_131 (by decide) ?_
    refine rw_isub 132 dX3_valueSets_132 ?_
    refine rw_iand 133 dX3_valueSets_133 ?_
    refine rn_iald 134 dX3_valueSets_134 hl6 hn6 h (fun h => ?_)
    refine rw_aload_n 135 dX3_valueSets_135 0 rfl ?_
    refine rw_getR 136 3 2 kc3 dX3_valueSets_136 ly_183 rln_183 fX3_19 rfl rf_183_2 ?_
    refine rw_iload 139 dX3_valueSets_139 4 rfl ?_
    refine rn_cSpi 141 [.int v7] dX3_valueSets_141 caJ6_numberOfTrailingZeros_0f7a4 lX3_43 stJ6_numberOfTrailingZeros_0f7a4 rfl naJ6_numberOfTrailingZeros_0f7a4 (Nat.le_of_ble_eq_true rfl) (Nat.le_of_ble_eq_true rfl) (by decide) (fun _ hq => wJ6_numberOfTrailingZeros_0f7a4 v7 μ hq) h (fun q9 h => ?_)
    refine rn_iald 144 dX3_valueSets_144 ly_195 rln_195 h (fun h => ?_)
    refine rw_iadd 145 dX3_valueSets_145 ?_
    refine rw_goto 146 150 dX3_valueSets_146 (by decide) ?_
    refine rn_iast 150 dX3_valueSets_150 hl6 hn6 h (fun μ10 h => ?_)
    refine rw_iinc 151 [(0, .ref 183), (2, .ref t2), (5, .int v5), (6, .ref r6), (7, .int (v7 + 1)), (8, .int s0)] dX3_valueSets_151 4 rfl rfl (by decide) rfl ?_
    refine rw_goto 154 78 dX3_valueSets_154 (by decide) ?_
    refine rw_pick 78 [0, 1, 2, 3, 4] rfl ?_
    exact hB (v7 + 1) μ10 h
set_option maxRecDepth 100000 in
theorem wX3_valueSets_78 (t2 : Nat) (ht2 : okX7 Rf0 NF t2) (t3 : Nat) (ht3 : okX5 Rf0 NF t3) (r6 : Nat) (hl6 : lay r6 = .inr (0, 128)) (hn6 : r6 < NF) (v5 : Int32)  (K : Mem → Option (Mem)) {res : Mem} (hK : ∀  (μ : Mem), K μ = some res → RW mX3_valueSets 5 NF NF 157 [] [] (μ, Rf0, NF) (QN none res Rf0 NF)) : ∀ (n9 : Nat) (v7 : Int32) (μ : Mem), fX3_valueSets_78 t2 t3 r6 v5 K n9 v7 μ = some res → RW mX3_valueSets 5 NF NF 78 [(0, .ref 183), (2, .ref t2), (5, .int v5), (6, .ref r6), (7, .int v7)] [] (μ, Rf0, NF) (QN none res Rf0 NF) := by
  intro n9
  induction n9 with
  | zero => intro _ _ h; cases h
  | succ n ih =>
    intro v7 μ h
    unfold fX3_valueSets_78 at h
    refine rw_iload 78 dX3_valueSets_78 4 rfl ?_
    refine rw_iconst 80 (v := 1) dX3_valueSets_80 (by decide) ?_
    refine rw_aload_n 81 dX3_valueSets_81 1 rfl ?_
    refine rw_getI 82 7 3 kc7 dX3_valueSets_82 (o7l ht2) (o7n ht2) fX3_27 rfl ?_
    refine rw_ishl 85 dX3_valueSets_85 ?_
    refine rn_icmp_ge 86 157 dX3_valueSets_86 (by decide) h (fun _ h => ?_) (fun _ h => ?_)
    · refine rw_pick 157 [] rfl ?_
      exact hK μ h
    · refine rw_iload 89 dX3_valueSets_89 4 rfl ?_
      refine rw_iload 91 dX3_valueSets_91 2 rfl ?_
      refine rw_iconst 93 (v := -1) dX3_valueSets_93 (by decide) ?_
      refine rw_ixor 94 dX3_valueSets_94 ?_
      refine rw_iand 95 dX3_valueSets_95 ?_
      refine rn_if_ne 96 113 dX3_valueSets_96 (by decide) h (fun _ h => ?_) (fun _ h => ?_)
      · refine rw_iconst 113 (v := 0) dX3_valueSets_113 (by decide) ?_
        exact wX3_valueSets_j114_78 t2 ht2 t3 ht3 r6 hl6 hn6 v5 v7 0 μ _ (fun z0 zm h => ih z0 zm h) K hK h
      · refine rw_aload_n 99 dX3_valueSets_99 1 rfl ?_
        refine rw_getR 100 7 13 kc7 dX3_valueSets_100 (o7l ht2) (o7n ht2) fX3_39 rfl (o7r13 ht2) ?_
        refine rw_iload 103 dX3_valueSets_103 4 rfl ?_
        refine rn_zald 105 dX3_valueSets_105 (o7l13 ht2) (o7n13 ht2) h (fun h => ?_)
        refine rn_if_eq 106 113 dX3_valueSets_106 (by decide) h (fun _ h => ?_) (fun _ h => ?_)
        · refine rw_iconst 113 (v := 0) dX3_valueSets_113 (by decide) ?_
          exact wX3_valueSets_j114_78 t2 ht2 t3 ht3 r6 hl6 hn6 v5 v7 0 μ _ (fun z0 zm h => ih z0 zm h) K hK h
        · refine rw_iconst 109 (v := 1) dX3_valueSets_109 (by decide) ?_
          refine rw_goto 110 114 dX3_valueSets_110 (by decide) ?_
          exact wX3_valueSets_j114_78 t2 ht2 t3 ht3 r6 hl6 hn6 v5 v7 1 μ _ (fun z0 zm h => ih z0 zm h) K hK h
set_option maxRecDepth 100000 in
theorem wX3_valueSets (t2 : Nat) (ht2 : okX7 Rf0 NF t2) (t3 : Nat) (ht3 : okX5 Rf0 NF t3) (a4 : Int32) (μ : Mem) {res : Mem} (h : fX3_valueSets t2 t3 a4 μ = some res) : Ct mX3_valueSets 5 NF NF [.ref 183, .ref 180, .ref t2, .ref t3, .int a4] (μ, Rf0, NF) (QN none res Rf0 NF) := by
  unfold fX3_valueSets at h
  show RW mX3_valueSets 5 NF NF 0 [(0, .ref 183), (1, .ref 180), (2, .ref t2), (3, .ref t3), (4, .int a4)] [] (μ, Rf0, NF) (QN none res Rf0 NF)
  refine rw_aload_n 0 dX3_valueSets_0 2 rfl ?_
  refine rw_aload_n 1 dX3_valueSets_1 3 rfl ?_
  refine rw_iload 2 dX3_valueSets_2 4 rfl ?_
  refine rn_cSpi 4 [.ref t2, .ref t3, .int a4] dX3_valueSets_4 caX3_livingFit lX3_23 stX3_livingFit rfl naX3_livingFit (Nat.le_of_ble_eq_true rfl) (Nat.le_of_ble_eq_true rfl) (by decide) (fun _ hq => wX3_livingFit t2 ht2 t3 ht3 a4 μ hq) h (fun q1 h => ?_)
  refine rw_istore 7 [(0, .ref 183), (1, .ref 180), (2, .ref t2), (3, .ref t3), (4, .int a4), (5, .int q1)] dX3_valueSets_7 (by decide) rfl ?_
  refine rw_iconst 9 (v := 0) dX3_valueSets_9 (by decide) ?_
  refine rw_istore 10 [(0, .ref 183), (1, .ref 180), (2, .ref t2), (3, .ref t3), (4, .int a4), (5, .int q1), (6, .int 0)] dX3_valueSets_10 (by decide) rfl ?_
  refine wX3_valueSets_12 t2 ht2 t3 ht3 a4 q1 _ (fun μ5 h => ?_) FU 0 μ h
  refine rw_aload_n 61 dX3_valueSets_61 0 rfl ?_
  refine rw_getR 62 3 0 kc3 dX3_valueSets_62 ly_183 rln_183 fX3_11 rfl rf_183_0 ?_
  refine rw_iload 65 dX3_valueSets_65 2 rfl ?_
  refine rn_aald 67 5 (by decide) dX3_valueSets_67 ly_184 rln_184 h (fun hi6 => (rfr_184 _ (inb_lt hi6))) (fun hi6 h => ?_)
  refine rw_astore 68 [(0, .ref 183), (2, .ref t2), (4, .int a4), (5, .int q1), (6, .ref (185 + a4.toNatClampNeg))] dX3_valueSets_68 (by decide) rfl ?_
  refine rw_aload 70 dX3_valueSets_70 4 rfl ?_
  refine rw_iconst 72 (v := 0) dX3_valueSets_72 (by decide) ?_
  refine rw_iconst 73 (v := 0) dX3_valueSets_73 (by decide) ?_
  refine rn_iastc 74 dX3_valueSets_74 (lyr_184 _ (inb_lt hi6)) (ltr_184 _ (inb_lt hi6)) (by decide) (j := 0) (by decide) h (fun μ7 h => ?_)
  refine rw_iconst 75 (v := 1) dX3_valueSets_75 (by decide) ?_
  refine rw_istore 76 [(0, .ref 183), (2, .ref t2), (4, .int a4), (5, .int q1), (6, .ref (185 + a4.toNatClampNeg)), (7, .int 1)] dX3_valueSets_76 (by decide) rfl ?_
  refine rw_pick 78 [0, 1, 3, 4, 5] rfl ?_
  refine wX3_valueSets_78 t2 ht2 t3 ht3 (185 + a4.toNatClampNeg) (lyr_184 _ (inb_lt hi6)) (ltr_184 _ (inb_lt hi6)) q1 _ (fun μ11 h => ?_) FU 1 μ7 h
  exact rn_vret 157 dX3_valueSets_157 rfl h
def fX3_bestSet_13 (t1 : Nat) (r3 : Nat)  (μ : Mem) (K : Int32 → Option (Int32)) : Nat → Int32 → Int32 → Option (Int32)
  | 0, _, _ => none
  | n + 1, v4, v5 =>
    if v5 < ((1 : Int32) <<< ((μ.1 t1 3) &&& 31)) then
      if inb v5 128 then
      if inb v4 128 then
      if (μ.1 r3 v4.toNatClampNeg) < (μ.1 r3 v5.toNatClampNeg) then
        fX3_bestSet_13 t1 r3 μ K n v5 (v5 + 1)
      else
        fX3_bestSet_13 t1 r3 μ K n v4 (v5 + 1)
      else none
      else none
    else
      K v4
def fX3_bestSet (t1 : Nat) (a2 : Int32) (μ : Mem) : Option (Int32) :=
  if inb a2 4 then
  fX3_bestSet_13 t1 (185 + a2.toNatClampNeg) μ (fun y2 =>
      some y2
  ) FU 0 1
  else none
set_option maxRecDepth 100000 in
theorem wX3_bestSet_13 (t1 : Nat) (ht1 : okX7 Rf0 NF t1) (r3 : Nat) (hl3 : lay r3 = .inr (0, 128)) (hn3 : r3 < NF)  (μ : Mem) (K : Int32 → Option (Int32)) {res : Int32} (hK : ∀ (v4 : Int32), K v4 = some res → RW mX3_bestSet 1 NF NF 45 [(4, .int v4)] [] (μ, Rf0, NF) (QN (some (.int res)) μ Rf0 NF)) : ∀ (n9 : Nat) (v4 : Int32) (v5 : Int32), fX3_bestSet_13 t1 r3 μ K n9 v4 v5 = some res → RW mX3_bestSet 1 NF NF 13 [(1, .ref t1), (3, .ref r3), (4, .int v4), (5, .int v5)] [] (μ, Rf0, NF) (QN (some (.int res)) μ Rf0 NF) := by
  intro n9
  induction n9 with
  | zero => intro _ _ h; cases h
  | succ n ih =>
    intro v4 v5 h
    unfold fX3_bestSet_13 at h
    refine rw_iload 13 dX3_bestSet_13 3 rfl ?_
    refine rw_iconst 15 (v := 1) dX3_bestSet_15 (by decide) ?_
    refine rw_aload_n 16 dX3_bestSet_16 0 rfl ?_
    refine rw_getI 17 7 3 kc7 dX3_bestSet_17 (o7l ht1) (o7n ht1) fX3_27 rfl ?_
    refine rw_ishl 20 dX3_bestSet_20 ?_
    refine rn_icmp_ge 21 45 dX3_bestSet_21 (by decide) h (fun _ h => ?_) (fun _ h => ?_)
    · refine rw_pick 45 [2] rfl ?_
      exact hK v4 h
    · refine rw_aload_n 24 dX3_bestSet_24 1 rfl ?_
      refine rw_iload 25 dX3_bestSet_25 3 rfl ?_
      refine rn_iald 27 dX3_bestSet_27 hl3 hn3 h (fun h => ?_)
      refine rw_aload_n 28 dX3_bestSet_28 1 rfl ?_
      refine rw_iload 29 dX3_bestSet_29 2 rfl ?_
      refine rn_iald 31 dX3_bestSet_31 hl3 hn3 h (fun h => ?_)
      refine rn_icmp_le 32 39 dX3_bestSet_32 (by decide) h (fun _ h => ?_) (fun _ h => ?_)
      · refine rw_iinc 39 [(1, .ref t1), (3, .ref r3), (4, .int v4), (5, .int (v5 + 1))] dX3_bestSet_39 3 rfl rfl (by decide) rfl ?_
        refine rw_goto 42 13 dX3_bestSet_42 (by decide) ?_
        exact ih v4 (v5 + 1) h
      · refine rw_iload 35 dX3_bestSet_35 3 rfl ?_
        refine rw_istore 37 [(1, .ref t1), (3, .ref r3), (4, .int v5), (5, .int v5)] dX3_bestSet_37 (by decide) rfl ?_
        refine rw_iinc 39 [(1, .ref t1), (3, .ref r3), (4, .int v5), (5, .int (v5 + 1))] dX3_bestSet_39 3 rfl rfl (by decide) rfl ?_
        refine rw_goto 42 13 dX3_bestSet_42 (by decide) ?_
        exact ih v5 (v5 + 1) h
set_option maxRecDepth 100000 in
theorem wX3_bestSet (t1 : Nat) (ht1 : okX7 Rf0 NF t1) (a2 : Int32) (μ : Mem) {res : Int32} (h : fX3_bestSet t1 a2 μ = some res) : Ct mX3_bestSet 1 NF NF [.ref 183, .ref t1, .int a2] (μ, Rf0, NF) (QN (some (.int res)) μ Rf0 NF) := by
  unfold fX3_bestSet at h
  show RW mX3_bestSet 1 NF NF 0 [(0, .ref 183), (1, .ref t1), (2, .int a2)] [] (μ, Rf0, NF) (QN (some (.int res)) μ Rf0 NF)
  refine rw_aload_n 0 dX3_bestSet_0 0 rfl ?_
  refine rw_getR 1 3 0 kc3 dX3_bestSet_1 ly_183 rln_183 fX3_11 rfl rf_183_0 ?_
  refine rw_iload_n 4 dX3_bestSet_4 2 rfl ?_
  refine rn_aald 5 5 (by decide) dX3_bestSet_5 ly_184 rln_184 h (fun hi1 => (rfr_184 _ (inb_lt hi1))) (fun hi1 h => ?_)
  refine rw_astore_n 6 [(0, .ref 183), (1, .ref t1), (2, .int a2), (3, .ref (185 + a2.toNatClampNeg))] dX3_bestSet_6 (by decide) rfl ?_
  refine rw_iconst 7 (v := 0) dX3_bestSet_7 (by decide) ?_
  refine rw_istore 8 [(0, .ref 183), (1, .ref t1), (2, .int a2), (3, .ref (185 + a2.toNatClampNeg)), (4, .int 0)] dX3_bestSet_8 (by decide) rfl ?_
  refine rw_iconst 10 (v := 1) dX3_bestSet_10 (by decide) ?_
  refine rw_istore 11 [(0, .ref 183), (1, .ref t1), (2, .int a2), (3, .ref (185 + a2.toNatClampNeg)), (4, .int 0), (5, .int 1)] dX3_bestSet_11 (by decide) rfl ?_
  refine rw_pick 13 [1, 3, 4, 5] rfl ?_
  refine wX3_bestSet_13 t1 ht1 (185 + a2.toNatClampNeg) (lyr_184 _ (inb_lt hi1)) (ltr_184 _ (inb_lt hi1)) μ _ (fun y2 h => ?_) FU 0 1 h
  refine rw_iload 45 dX3_bestSet_45 0 rfl ?_
  exact rn_iret 47 dX3_bestSet_47 rfl h
def fX10_alone (a1 : Int32) (a2 : Int32) (μ : Mem) : Option (Int32 × Mem) :=
  (fX10_isSunday a1 μ).bind fun q1 =>
  if q1 = true then
    (fX10_isOneOfTwo a2 μ).bind fun q2 =>
    if q2 = true then
      (fX3_valueSets 199 9 a1 μ).bind fun q3 =>
      (fX3_bestSet 199 a1 q3).bind fun q4 =>
      if a2 = 0 then
        if inb a1 4 then
        if inb q4 128 then
        some ((q3.1 (185 + a1.toNatClampNeg) q4.toNatClampNeg), q3)
        else none
        else none
      else
        some (q4, q3)
    else
      some ((-1), μ)
  else
    some ((-1), μ)
set_option maxRecDepth 100000 in
theorem wX10_alone (a1 : Int32) (a2 : Int32) (μ : Mem) {res : Int32 × Mem} (h : fX10_alone a1 a2 μ = some res) : Ct mX10_alone 6 NF NF [.ref 0, .int a1, .int a2] (μ, Rf0, NF) (QN (some (.int res.1)) res.2 Rf0 NF) := by
  unfold fX10_alone at h
  show RW mX10_alone 6 NF NF 0 [(0, .ref 0), (1, .int a1), (2, .int a2)] [] (μ, Rf0, NF) (QN (some (.int res.1)) res.2 Rf0 NF)
  refine rw_aload_n 0 dX10_alone_0 0 rfl ?_
  refine rw_iload_n 1 dX10_alone_1 1 rfl ?_
  refine rn_cVpb 2 10 [.int a1] dX10_alone_2 caX10_isSunday lX10_107 inX10_isSunday slX10_isSunday rfl ly_0 ⟨_, rfl, rfl⟩ rln_0 naX10_isSunday (Nat.le_of_ble_eq_true rfl) (Nat.le_of_ble_eq_true rfl) (by decide) (fun _ hq => wX10_isSunday a1 μ hq) h (fun q1 h => ?_)
  refine rn_ifb_eq 5 16 dX10_alone_5 (by decide) h (fun _ h => ?_) (fun _ h => ?_)
  · refine rw_iconst 16 (v := -1) dX10_alone_16 (by decide) ?_
    exact rn_iret2 17 dX10_alone_17 rfl h
  · refine rw_aload_n 8 dX10_alone_8 0 rfl ?_
    refine rw_iload_n 9 dX10_alone_9 2 rfl ?_
    refine rn_cVpb 10 10 [.int a2] dX10_alone_10 caX10_isOneOfTwo lX10_199 inX10_isOneOfTwo slX10_isOneOfTwo rfl ly_0 ⟨_, rfl, rfl⟩ rln_0 naX10_isOneOfTwo (Nat.le_of_ble_eq_true rfl) (Nat.le_of_ble_eq_true rfl) (by decide) (fun _ hq => wX10_isOneOfTwo a2 μ hq) h (fun q2 h => ?_)
    refine rn_ifb_ne 13 18 dX10_alone_13 (by decide) h (fun _ h => ?_) (fun _ h => ?_)
    · refine rw_aload_n 18 dX10_alone_18 0 rfl ?_
      refine rw_getR 19 10 7 kc10 dX10_alone_19 ly_0 rln_0 fX10_54 rfl rf_0_7 ?_
      refine rw_aload_n 22 dX10_alone_22 0 rfl ?_
      refine rw_getR 23 10 6 kc10 dX10_alone_23 ly_0 rln_0 fX10_47 rfl rf_0_6 ?_
      refine rw_aload_n 26 dX10_alone_26 0 rfl ?_
      refine rw_getR 27 10 9 kc10 dX10_alone_27 ly_0 rln_0 fX10_68 rfl rf_0_9 ?_
      refine rw_aload_n 30 dX10_alone_30 0 rfl ?_
      refine rw_getR 31 10 2 kc10 dX10_alone_31 ly_0 rln_0 fX10_26 rfl rf_0_2 ?_
      refine rw_iload_n 34 dX10_alone_34 1 rfl ?_
      refine rn_cVmv 35 3 [.ref 180, .ref 199, .ref 9, .int a1] dX10_alone_35 caX3_valueSets lX10_202 inX3_valueSets slX3_valueSets rfl ly_183 ⟨_, rfl, rfl⟩ rln_183 naX3_valueSets (Nat.le_of_ble_eq_true rfl) (Nat.le_of_ble_eq_true rfl) (by decide) (fun _ hq => wX3_valueSets 199 okX7_199 9 okX5_9 a1 μ hq) h (fun q3 h => ?_)
      refine rw_aload_n 38 dX10_alone_38 0 rfl ?_
      refine rw_getR 39 10 7 kc10 dX10_alone_39 ly_0 rln_0 fX10_54 rfl rf_0_7 ?_
      refine rw_aload_n 42 dX10_alone_42 0 rfl ?_
      refine rw_getR 43 10 9 kc10 dX10_alone_43 ly_0 rln_0 fX10_68 rfl rf_0_9 ?_
      refine rw_iload_n 46 dX10_alone_46 1 rfl ?_
      refine rn_cVpi 47 3 [.ref 199, .int a1] dX10_alone_47 caX3_bestSet lX10_206 inX3_bestSet slX3_bestSet rfl ly_183 ⟨_, rfl, rfl⟩ rln_183 naX3_bestSet (Nat.le_of_ble_eq_true rfl) (Nat.le_of_ble_eq_true rfl) (by decide) (fun _ hq => wX3_bestSet 199 okX7_199 a1 q3 hq) h (fun q4 h => ?_)
      refine rw_istore_n 50 [(0, .ref 0), (1, .int a1), (2, .int a2), (3, .int q4)] dX10_alone_50 (by decide) rfl ?_
      refine rw_iload_n 51 dX10_alone_51 2 rfl ?_
      refine rn_if_ne 52 69 dX10_alone_52 (by decide) h (fun _ h => ?_) (fun _ h => ?_)
      · refine rw_iload_n 69 dX10_alone_69 3 rfl ?_
        exact rn_iret2 70 dX10_alone_70 rfl h
      · refine rw_aload_n 55 dX10_alone_55 0 rfl ?_
        refine rw_getR 56 10 7 kc10 dX10_alone_56 ly_0 rln_0 fX10_54 rfl rf_0_7 ?_
        refine rw_getR 59 3 0 kc3 dX10_alone_59 ly_183 rln_183 fX10_210 rfl rf_183_0 ?_
        refine rw_iload_n 62 dX10_alone_62 1 rfl ?_
        refine rn_aald 63 5 (by decide) dX10_alone_63 ly_184 rln_184 h (fun hi5 => (rfr_184 _ (inb_lt hi5))) (fun hi5 h => ?_)
        refine rw_iload_n 64 dX10_alone_64 3 rfl ?_
        refine rn_iald 65 dX10_alone_65 (lyr_184 _ (inb_lt hi5)) (ltr_184 _ (inb_lt hi5)) h (fun h => ?_)
        refine rw_goto 66 70 dX10_alone_66 (by decide) ?_
        exact rn_iret2 70 dX10_alone_70 rfl h
    · refine rw_iconst 16 (v := -1) dX10_alone_16 (by decide) ?_
      exact rn_iret2 17 dX10_alone_17 rfl h
def fX3_mostWith_12   (v1 : Int32) (v2 : Int32) (μ : Mem) (K : Int32 → Option (Int32)) : Nat → Int32 → Int32 → Option (Int32)
  | 0, _, _ => none
  | n + 1, v3, v4 =>
    if 0 < v4 then
      if inb v1 4 then
      if inb v4 128 then
      nm (μ.1 (185 + v1.toNatClampNeg) v4.toNatClampNeg) fun x4 =>
      if x4 = (-1) then
        nm ((v4 - 1) &&& v2) fun x5 =>
        fX3_mostWith_12 v1 v2 μ K n v3 x5
      else
        if inb v1 5 then
        if inb (v2 ^^^ v4) 128 then
        nm (mxI v3 (x4 + (μ.1 (190 + v1.toNatClampNeg) (v2 ^^^ v4).toNatClampNeg))) fun x7 =>
        nm ((v4 - 1) &&& v2) fun x8 =>
        fX3_mostWith_12 v1 v2 μ K n x7 x8
        else none
        else none
      else none
      else none
    else
      K v3
def fX3_mostWith (a1 : Int32) (a2 : Int32) (μ : Mem) : Option (Int32) :=
  if inb a1 5 then
  if inb a2 128 then
  nm (μ.1 (190 + a1.toNatClampNeg) a2.toNatClampNeg) fun x2 =>
  fX3_mostWith_12 a1 a2 μ (fun y9 =>
      some y9
  ) FU x2 a2
  else none
  else none
set_option maxRecDepth 100000 in
theorem wX3_mostWith_12   (v1 : Int32) (v2 : Int32) (μ : Mem) (K : Int32 → Option (Int32)) {res : Int32} (hK : ∀ (v3 : Int32), K v3 = some res → RW mX3_mostWith 1 NF NF 64 [(3, .int v3)] [] (μ, Rf0, NF) (QN (some (.int res)) μ Rf0 NF)) : ∀ (n9 : Nat) (v3 : Int32) (v4 : Int32), fX3_mostWith_12 v1 v2 μ K n9 v3 v4 = some res → RW mX3_mostWith 1 NF NF 12 [(0, .ref 183), (1, .int v1), (2, .int v2), (3, .int v3), (4, .int v4)] [] (μ, Rf0, NF) (QN (some (.int res)) μ Rf0 NF) := by
  intro n9
  induction n9 with
  | zero => intro _ _ h; cases h
  | succ n ih =>
    intro v3 v4 h
    unfold fX3_mostWith_12 at h
    refine rw_iload 12 dX3_mostWith_12 4 rfl ?_
    refine rn_if_le 14 64 dX3_mostWith_14 (by decide) h (fun _ h => ?_) (fun _ h => ?_)
    · refine rw_pick 64 [3] rfl ?_
      exact hK v3 h
    · refine rw_aload_n 17 dX3_mostWith_17 0 rfl ?_
      refine rw_getR 18 3 0 kc3 dX3_mostWith_18 ly_183 rln_183 fX3_11 rfl rf_183_0 ?_
      refine rw_iload_n 21 dX3_mostWith_21 1 rfl ?_
      refine rn_aald 22 5 (by decide) dX3_mostWith_22 ly_184 rln_184 h (fun hi3 => (rfr_184 _ (inb_lt hi3))) (fun hi3 h => ?_)
      refine rw_iload 23 dX3_mostWith_23 4 rfl ?_
      refine rn_iald 25 dX3_mostWith_25 (lyr_184 _ (inb_lt hi3)) (ltr_184 _ (inb_lt hi3)) h (fun h => ?_)
      refine rn_ist 26 (fun x4 => [(0, .ref 183), (1, .int v1), (2, .int v2), (3, .int v3), (4, .int v4), (5, .int x4)]) dX3_mostWith_26 (by decide) (fun _ => rfl) h (fun x4 h => ?_)
      refine rw_iload 28 dX3_mostWith_28 5 rfl ?_
      refine rw_iconst 30 (v := -1) dX3_mostWith_30 (by decide) ?_
      refine rn_icmp_eq 31 53 dX3_mostWith_31 (by decide) h (fun _ h => ?_) (fun _ h => ?_)
      · refine rw_iload 53 dX3_mostWith_53 4 rfl ?_
        refine rw_iconst 55 (v := 1) dX3_mostWith_55 (by decide) ?_
        refine rw_isub 56 dX3_mostWith_56 ?_
        refine rw_iload_n 57 dX3_mostWith_57 2 rfl ?_
        refine rw_iand 58 dX3_mostWith_58 ?_
        refine rn_ist 59 (fun x5 => [(0, .ref 183), (1, .int v1), (2, .int v2), (3, .int v3), (4, .int x5), (5, .int x4)]) dX3_mostWith_59 (by decide) (fun _ => rfl) h (fun x5 h => ?_)
        refine rw_goto 61 12 dX3_mostWith_61 (by decide) ?_
        refine rw_pick 12 [0, 1, 2, 3, 4] rfl ?_
        exact ih v3 x5 h
      · refine rw_iload_n 34 dX3_mostWith_34 3 rfl ?_
        refine rw_iload 35 dX3_mostWith_35 5 rfl ?_
        refine rw_aload_n 37 dX3_mostWith_37 0 rfl ?_
        refine rw_getR 38 3 1 kc3 dX3_mostWith_38 ly_183 rln_183 fX3_16 rfl rf_183_1 ?_
        refine rw_iload_n 41 dX3_mostWith_41 1 rfl ?_
        refine rn_aald 42 5 (by decide) dX3_mostWith_42 ly_189 rln_189 h (fun hi6 => (rfr_189 _ (inb_lt hi6))) (fun hi6 h => ?_)
        refine rw_iload_n 43 dX3_mostWith_43 2 rfl ?_
        refine rw_iload 44 dX3_mostWith_44 4 rfl ?_
        refine rw_ixor 46 dX3_mostWith_46 ?_
        refine rn_iald 47 dX3_mostWith_47 (lyr_189 _ (inb_lt hi6)) (ltr_189 _ (inb_lt hi6)) h (fun h => ?_)
        refine rw_iadd 48 dX3_mostWith_48 ?_
        refine rw_mmax 49 dX3_mostWith_49 lX3_69 stJ9_max_7cf53 iiJ9_max_7cf53 coJ9_max_7cf53 (by decide) (Nat.le_of_ble_eq_true rfl) ?_
        refine rn_ist_n 52 (fun x7 => [(0, .ref 183), (1, .int v1), (2, .int v2), (3, .int x7), (4, .int v4), (5, .int x4)]) dX3_mostWith_52 (by decide) (fun _ => rfl) h (fun x7 h => ?_)
        refine rw_iload 53 dX3_mostWith_53 4 rfl ?_
        refine rw_iconst 55 (v := 1) dX3_mostWith_55 (by decide) ?_
        refine rw_isub 56 dX3_mostWith_56 ?_
        refine rw_iload_n 57 dX3_mostWith_57 2 rfl ?_
        refine rw_iand 58 dX3_mostWith_58 ?_
        refine rn_ist 59 (fun x8 => [(0, .ref 183), (1, .int v1), (2, .int v2), (3, .int x7), (4, .int x8), (5, .int x4)]) dX3_mostWith_59 (by decide) (fun _ => rfl) h (fun x8 h => ?_)
        refine rw_goto 61 12 dX3_mostWith_61 (by decide) ?_
        refine rw_pick 12 [0, 1, 2, 3, 4] rfl ?_
        exact ih x7 x8 h
set_option maxRecDepth 100000 in
theorem wX3_mostWith (a1 : Int32) (a2 : Int32) (μ : Mem) {res : Int32} (h : fX3_mostWith a1 a2 μ = some res) : Ct mX3_mostWith 1 NF NF [.ref 183, .int a1, .int a2] (μ, Rf0, NF) (QN (some (.int res)) μ Rf0 NF) := by
  unfold fX3_mostWith at h
  show RW mX3_mostWith 1 NF NF 0 [(0, .ref 183), (1, .int a1), (2, .int a2)] [] (μ, Rf0, NF) (QN (some (.int res)) μ Rf0 NF)
  refine rw_aload_n 0 dX3_mostWith_0 0 rfl ?_
  refine rw_getR 1 3 1 kc3 dX3_mostWith_1 ly_183 rln_183 fX3_16 rfl rf_183_1 ?_
  refine rw_iload_n 4 dX3_mostWith_4 1 rfl ?_
  refine rn_aald 5 5 (by decide) dX3_mostWith_5 ly_189 rln_189 h (fun hi1 => (rfr_189 _ (inb_lt hi1))) (fun hi1 h => ?_)
  refine rw_iload_n 6 dX3_mostWith_6 2 rfl ?_
  refine rn_iald 7 dX3_mostWith_7 (lyr_189 _ (inb_lt hi1)) (ltr_189 _ (inb_lt hi1)) h (fun h => ?_)
  refine rn_ist_n 8 (fun x2 => [(0, .ref 183), (1, .int a1), (2, .int a2), (3, .int x2)]) dX3_mostWith_8 (by decide) (fun _ => rfl) h (fun x2 h => ?_)
  refine rw_iload_n 9 dX3_mostWith_9 2 rfl ?_
  refine rw_istore 10 [(0, .ref 183), (1, .int a1), (2, .int a2), (3, .int x2), (4, .int a2)] dX3_mostWith_10 (by decide) rfl ?_
  refine wX3_mostWith_12 a1 a2 μ _ (fun y9 h => ?_) FU x2 a2 h
  refine rw_iload_n 64 dX3_mostWith_64 0 rfl ?_
  exact rn_iret 65 dX3_mostWith_65 rfl h
def fX3_letAll_2 (t1 : Nat)    (K : Mem → Option (Mem)) : Nat → Int32 → Mem → Option (Mem)
  | 0, _, _ => none
  | n + 1, v2, μ =>
    if v2 < 128 then
      if inb v2 128 then nm (wI μ 190 v2.toNatClampNeg 0) fun μ1 =>
      fX3_letAll_2 t1 K n (v2 + 1) μ1
      else none
    else
      K μ
def fX3_letAll_36 (t1 : Nat)  (v2 : Int32)  (K : Mem → Option (Mem)) : Nat → Int32 → Mem → Option (Mem)
  | 0, _, _ => none
  | n + 1, v3, μ =>
    if v3 < ((1 : Int32) <<< ((μ.1 t1 3) &&& 31)) then
      if inb (v2 + 1) 5 then
      (fX3_mostWith v2 v3 μ).bind fun q4 =>
      if inb v3 128 then nm (wI μ (190 + (v2 + 1).toNatClampNeg) v3.toNatClampNeg q4) fun μ5 =>
      fX3_letAll_36 t1 v2 K n (v3 + 1) μ5
      else none
      else none
    else
      K μ
def fX3_letAll_26 (t1 : Nat)    (K : Mem → Option (Mem)) : Nat → Int32 → Mem → Option (Mem)
  | 0, _, _ => none
  | n + 1, v2, μ =>
    if v2 < (μ.1 t1 0) then
      fX3_letAll_36 t1 v2 (fun μ6 =>
          fX3_letAll_26 t1 K n (v2 + 1) μ6
      ) FU 0 μ
    else
      K μ
def fX3_letAll (t1 : Nat) (μ : Mem) : Option (Mem) :=
  fX3_letAll_2 t1 (fun μ2 =>
      fX3_letAll_26 t1 (fun μ7 =>
          some μ7
      ) FU 0 μ2
  ) FU 0 μ
set_option maxRecDepth 100000 in
theorem wX3_letAll_2 (t1 : Nat) (ht1 : okX7 Rf0 NF t1)    (K : Mem → Option (Mem)) {res : Mem} (hK : ∀  (μ : Mem), K μ = some res → RW mX3_letAll 2 NF NF 24 [(0, .ref 183), (1, .ref t1)] [] (μ, Rf0, NF) (QN none res Rf0 NF)) : ∀ (n9 : Nat) (v2 : Int32) (μ : Mem), fX3_letAll_2 t1 K n9 v2 μ = some res → RW mX3_letAll 2 NF NF 2 [(0, .ref 183), (1, .ref t1), (2, .int v2)] [] (μ, Rf0, NF) (QN none res Rf0 NF) := by
  intro n9
  induction n9 with
  | zero => intro _ _ h; cases h
  | succ n ih =>
    intro v2 μ h
    unfold fX3_letAll_2 at h
    refine rw_iload_n 2 dX3_letAll_2 2 rfl ?_
    refine rw_sipush 3 (v := 128) dX3_letAll_3 (by decide) ?_
    refine rn_icmp_ge 6 24 dX3_letAll_6 (by decide) h (fun _ h => ?_) (fun _ h => ?_)
    · refine rw_pick 24 [0, 1] rfl ?_
      exact hK μ h
    · refine rw_aload_n 9 dX3_letAll_9 0 rfl ?_
      refine rw_getR 10 3 1 kc3 dX3_letAll_10 ly_183 rln_183 fX3_16 rfl rf_183_1 ?_
      refine rw_iconst 13 (v := 0) dX3_letAll_13 (by decide) ?_
      refine rn_aaldc 14 5 (by decide) dX3_letAll_14 ly_189 rln_189 (by decide) (j := 0) (by decide) rf_189_0 ?_
      refine rw_iload_n 15 dX3_letAll_15 2 rfl ?_
      refine rw_iconst 16 (v := 0) dX3_letAll_16 (by decide) ?_
      refine rn_iast 17 dX3_letAll_17 ly_190 rln_190 h (fun μ1 h => ?_)
      refine rw_iinc 18 [(0, .ref 183), (1, .ref t1), (2, .int (v2 + 1))] dX3_letAll_18 2 rfl rfl (by decide) rfl ?_
      refine rw_goto 21 2 dX3_letAll_21 (by decide) ?_
      exact ih (v2 + 1) μ1 h
set_option maxRecDepth 100000 in
theorem wX3_letAll_36 (t1 : Nat) (ht1 : okX7 Rf0 NF t1)  (v2 : Int32)  (K : Mem → Option (Mem)) {res : Mem} (hK : ∀  (μ : Mem), K μ = some res → RW mX3_letAll 2 NF NF 68 [(0, .ref 183), (1, .ref t1), (2, .int v2)] [] (μ, Rf0, NF) (QN none res Rf0 NF)) : ∀ (n9 : Nat) (v3 : Int32) (μ : Mem), fX3_letAll_36 t1 v2 K n9 v3 μ = some res → RW mX3_letAll 2 NF NF 36 [(0, .ref 183), (1, .ref t1), (2, .int v2), (3, .int v3)] [] (μ, Rf0, NF) (QN none res Rf0 NF) := by
  intro n9
  induction n9 with
  | zero => intro _ _ h; cases h
  | succ n ih =>
    intro v3 μ h
    unfold fX3_letAll_36 at h
    refine rw_iload_n 36 dX3_letAll_36 3 rfl ?_
    refine rw_iconst 37 (v := 1) dX3_letAll_37 (by decide) ?_
    refine rw_aload_n 38 dX3_letAll_38 1 rfl ?_
    refine rw_getI 39 7 3 kc7 dX3_letAll_39 (o7l ht1) (o7n ht1) fX3_27 rfl ?_
    refine rw_ishl 42 dX3_letAll_42 ?_
    refine rn_icmp_ge 43 68 dX3_letAll_43 (by decide) h (fun _ h => ?_) (fun _ h => ?_)
    · refine rw_pick 68 [0, 1, 2] rfl ?_
      exact hK μ h
    · refine rw_aload_n 46 dX3_letAll_46 0 rfl ?_
      refine rw_getR 47 3 1 kc3 dX3_letAll_47 ly_183 rln_183 fX3_16 rfl rf_183_1 ?_
      refine rw_iload_n 50 dX3_letAll_50 2 rfl ?_
      refine rw_iconst 51 (v := 1) dX3_letAll_51 (by decide) ?_
      refine rw_iadd 52 dX3_letAll_52 ?_
      refine rn_aald 53 5 (by decide) dX3_letAll_53 ly_189 rln_189 h (fun hi3 => (rfr_189 _ (inb_lt hi3))) (fun hi3 h => ?_)
      refine rw_iload_n 54 dX3_letAll_54 3 rfl ?_
      refine rw_aload_n 55 dX3_letAll_55 0 rfl ?_
      refine rw_iload_n 56 dX3_letAll_56 2 rfl ?_
      refine rw_iload_n 57 dX3_letAll_57 3 rfl ?_
      refine rn_cVpi 58 3 [.int v2, .int v3] dX3_letAll_58 caX3_mostWith lX3_65 inX3_mostWith slX3_mostWith rfl ly_183 ⟨_, rfl, rfl⟩ rln_183 naX3_mostWith (Nat.le_of_ble_eq_true rfl) (Nat.le_of_ble_eq_true rfl) (by decide) (fun _ hq => wX3_mostWith v2 v3 μ hq) h (fun q4 h => ?_)
      refine rn_iast 61 dX3_letAll_61 (lyr_189 _ (inb_lt hi3)) (ltr_189 _ (inb_lt hi3)) h (fun μ5 h => ?_)
      refine rw_iinc 62 [(0, .ref 183), (1, .ref t1), (2, .int v2), (3, .int (v3 + 1))] dX3_letAll_62 3 rfl rfl (by decide) rfl ?_
      refine rw_goto 65 36 dX3_letAll_65 (by decide) ?_
      exact ih (v3 + 1) μ5 h
set_option maxRecDepth 100000 in
theorem wX3_letAll_26 (t1 : Nat) (ht1 : okX7 Rf0 NF t1)    (K : Mem → Option (Mem)) {res : Mem} (hK : ∀  (μ : Mem), K μ = some res → RW mX3_letAll 2 NF NF 74 [] [] (μ, Rf0, NF) (QN none res Rf0 NF)) : ∀ (n9 : Nat) (v2 : Int32) (μ : Mem), fX3_letAll_26 t1 K n9 v2 μ = some res → RW mX3_letAll 2 NF NF 26 [(0, .ref 183), (1, .ref t1), (2, .int v2)] [] (μ, Rf0, NF) (QN none res Rf0 NF) := by
  intro n9
  induction n9 with
  | zero => intro _ _ h; cases h
  | succ n ih =>
    intro v2 μ h
    unfold fX3_letAll_26 at h
    refine rw_iload_n 26 dX3_letAll_26 2 rfl ?_
    refine rw_aload_n 27 dX3_letAll_27 1 rfl ?_
    refine rw_getI 28 7 0 kc7 dX3_letAll_28 (o7l ht1) (o7n ht1) fX3_62 rfl ?_
    refine rn_icmp_ge 31 74 dX3_letAll_31 (by decide) h (fun _ h => ?_) (fun _ h => ?_)
    · refine rw_pick 74 [] rfl ?_
      exact hK μ h
    · refine rw_iconst 34 (v := 0) dX3_letAll_34 (by decide) ?_
      refine rw_istore_n 35 [(0, .ref 183), (1, .ref t1), (2, .int v2), (3, .int 0)] dX3_letAll_35 (by decide) rfl ?_
      refine wX3_letAll_36 t1 ht1 v2 _ (fun μ6 h => ?_) FU 0 μ h
      refine rw_iinc 68 [(0, .ref 183), (1, .ref t1), (2, .int (v2 + 1))] dX3_letAll_68 2 rfl rfl (by decide) rfl ?_
      refine rw_goto 71 26 dX3_letAll_71 (by decide) ?_
      exact ih (v2 + 1) μ6 h
set_option maxRecDepth 100000 in
theorem wX3_letAll (t1 : Nat) (ht1 : okX7 Rf0 NF t1) (μ : Mem) {res : Mem} (h : fX3_letAll t1 μ = some res) : Ct mX3_letAll 2 NF NF [.ref 183, .ref t1] (μ, Rf0, NF) (QN none res Rf0 NF) := by
  unfold fX3_letAll at h
  show RW mX3_letAll 2 NF NF 0 [(0, .ref 183), (1, .ref t1)] [] (μ, Rf0, NF) (QN none res Rf0 NF)
  refine rw_iconst 0 (v := 0) dX3_letAll_0 (by decide) ?_
  refine rw_istore_n 1 [(0, .ref 183), (1, .ref t1), (2, .int 0)] dX3_letAll_1 (by decide) rfl ?_
  refine wX3_letAll_2 t1 ht1 _ (fun μ2 h => ?_) FU 0 μ h
  refine rw_iconst 24 (v := 0) dX3_letAll_24 (by decide) ?_
  refine rw_istore_n 25 [(0, .ref 183), (1, .ref t1), (2, .int 0)] dX3_letAll_25 (by decide) rfl ?_
  refine wX3_letAll_26 t1 ht1 _ (fun μ7 h => ?_) FU 0 μ2 h
  exact rn_vret 74 dX3_letAll_74 rfl h
def fX5_alive (t0 : Nat) (t1 : Nat) (μ : Mem) : Option (Int32) :=
  some ((((1 : Int32) <<< ((μ.1 t1 3) &&& 31)) - 1) &&& ((μ.1 t0 2) ^^^ (-1)))
set_option maxRecDepth 100000 in
theorem wX5_alive (t0 : Nat) (ht0 : okX5 Rf0 NF t0) (t1 : Nat) (ht1 : okX7 Rf0 NF t1) (μ : Mem) {res : Int32} (h : fX5_alive t0 t1 μ = some res) : Ct mX5_alive 1 NF NF [.ref t0, .ref t1] (μ, Rf0, NF) (QN (some (.int res)) μ Rf0 NF) := by
  unfold fX5_alive at h
  show RW mX5_alive 1 NF NF 0 [(0, .ref t0), (1, .ref t1)] [] (μ, Rf0, NF) (QN (some (.int res)) μ Rf0 NF)
  refine rw_iconst 0 (v := 1) dX5_alive_0 (by decide) ?_
  refine rw_aload_n 1 dX5_alive_1 1 rfl ?_
  refine rw_getI 2 7 3 kc7 dX5_alive_2 (o7l ht1) (o7n ht1) fX5_38 rfl ?_
  refine rw_ishl 5 dX5_alive_5 ?_
  refine rw_iconst 6 (v := 1) dX5_alive_6 (by decide) ?_
  refine rw_isub 7 dX5_alive_7 ?_
  refine rw_aload_n 8 dX5_alive_8 0 rfl ?_
  refine rw_getI 9 5 2 kc5 dX5_alive_9 (o5l ht0) (o5n ht0) fX5_18 rfl ?_
  refine rw_iconst 12 (v := -1) dX5_alive_12 (by decide) ?_
  refine rw_ixor 13 dX5_alive_13 ?_
  refine rw_iand 14 dX5_alive_14 ?_
  exact rn_iret 15 dX5_alive_15 rfl h
def fX3_leastPart_2   (v1 : Int32) (v2 : Int32) (μ : Mem) (K : Unit → Option (Int32)) : Nat → Int32 → Option (Int32)
  | 0, _ => none
  | n + 1, v3 =>
    if v2 < v3 then
      K ()
    else
      if inb v1 4 then
      if inb v3 128 then
      nm (μ.1 (185 + v1.toNatClampNeg) v3.toNatClampNeg) fun x2 =>
      if (v3 &&& (v2 ^^^ (-1))) = 0 then
        if x2 = (-1) then
          fX3_leastPart_2 v1 v2 μ K n (v3 + 1)
        else
          if inb v1 5 then
          if inb (v2 ^^^ v3) 128 then
          if inb (v1 + 1) 5 then
          if inb v2 128 then
          if (x2 + (μ.1 (190 + v1.toNatClampNeg) (v2 ^^^ v3).toNatClampNeg)) = (μ.1 (190 + (v1 + 1).toNatClampNeg) v2.toNatClampNeg) then
            some v3
          else
            fX3_leastPart_2 v1 v2 μ K n (v3 + 1)
          else none
          else none
          else none
          else none
      else
        fX3_leastPart_2 v1 v2 μ K n (v3 + 1)
      else none
      else none
def fX3_leastPart (a1 : Int32) (a2 : Int32) (μ : Mem) : Option (Int32) :=
  fX3_leastPart_2 a1 a2 μ (fun _ =>
      some 0
  ) FU 0
set_option maxRecDepth 100000 in
theorem wX3_leastPart_2   (v1 : Int32) (v2 : Int32) (μ : Mem) (K : Unit → Option (Int32)) {res : Int32} (hK : ∀ (_ : Unit), K () = some res → RW mX3_leastPart 1 NF NF 65 [] [] (μ, Rf0, NF) (QN (some (.int res)) μ Rf0 NF)) : ∀ (n9 : Nat) (v3 : Int32), fX3_leastPart_2 v1 v2 μ K n9 v3 = some res → RW mX3_leastPart 1 NF NF 2 [(0, .ref 183), (1, .int v1), (2, .int v2), (3, .int v3)] [] (μ, Rf0, NF) (QN (some (.int res)) μ Rf0 NF) := by
  intro n9
  induction n9 with
  | zero => intro _ h; cases h
  | succ n ih =>
    intro v3 h
    unfold fX3_leastPart_2 at h
    refine rw_iload_n 2 dX3_leastPart_2 3 rfl ?_
    refine rw_iload_n 3 dX3_leastPart_3 2 rfl ?_
    refine rn_icmp_gt 4 65 dX3_leastPart_4 (by decide) h (fun _ h => ?_) (fun _ h => ?_)
    · refine rw_pick 65 [] rfl ?_
      exact hK () h
    · refine rw_aload_n 7 dX3_leastPart_7 0 rfl ?_
      refine rw_getR 8 3 0 kc3 dX3_leastPart_8 ly_183 rln_183 fX3_11 rfl rf_183_0 ?_
      refine rw_iload_n 11 dX3_leastPart_11 1 rfl ?_
      refine rn_aald 12 5 (by decide) dX3_leastPart_12 ly_184 rln_184 h (fun hi1 => (rfr_184 _ (inb_lt hi1))) (fun hi1 h => ?_)
      refine rw_iload_n 13 dX3_leastPart_13 3 rfl ?_
      refine rn_iald 14 dX3_leastPart_14 (lyr_184 _ (inb_lt hi1)) (ltr_184 _ (inb_lt hi1)) h (fun h => ?_)
      refine rn_ist 15 (fun x2 => [(0, .ref 183), (1, .int v1), (2, .int v2), (3, .int v3), (4, .int x2)]) dX3_leastPart_15 (by decide) (fun _ => rfl) h (fun x2 h => ?_)
      refine rw_iload_n 17 dX3_leastPart_17 3 rfl ?_
      refine rw_iload_n 18 dX3_leastPart_18 2 rfl ?_
      refine rw_iconst 19 (v := -1) dX3_leastPart_19 (by decide) ?_
      refine rw_ixor 20 dX3_leastPart_20 ?_
      refine rw_iand 21 dX3_leastPart_21 ?_
      refine rn_if_ne 22 59 dX3_leastPart_22 (by decide) h (fun _ h => ?_) (fun _ h => ?_)
      · refine rw_iinc 59 [(0, .ref 183), (1, .int v1), (2, .int v2), (3, .int (v3 + 1)), (4, .int x2)] dX3_leastPart_59 3 rfl rfl (by decide) rfl ?_
        refine rw_goto 62 2 dX3_leastPart_62 (by decide) ?_
        refine rw_pick 2 [0, 1, 2, 3] rfl ?_
        exact ih (v3 + 1) h
      · refine rw_iload 25 dX3_leastPart_25 4 rfl ?_
        refine rw_iconst 27 (v := -1) dX3_leastPart_27 (by decide) ?_
        refine rn_icmp_eq 28 59 dX3_leastPart_28 (by decide) h (fun _ h => ?_) (fun _ h => ?_)
        · refine rw_iinc 59 [(0, .ref 183), (1, .int v1), (2, .int v2), (3, .int (v3 + 1)), (4, .int x2)] dX3_leastPart_59 3 rfl rfl (by decide) rfl ?_
          refine rw_goto 62 2 dX3_leastPart_62 (by decide) ?_
          refine rw_pick 2 [0, 1, 2, 3] rfl ?_
          exact ih (v3 + 1) h
        · refine rw_iload 31 dX3_leastPart_31 4 rfl ?_
          refine rw_aload_n 33 dX3_leastPart_33 0 rfl ?_
          refine rw_getR 34 3 1 kc3 dX3_leastPart_34 ly_183 rln_183 fX3_16 rfl rf_183_1 ?_
          refine rw_iload_n 37 dX3_leastPart_37 1 rfl ?_
          refine rn_aald 38 5 (by decide) dX3_leastPart_38 ly_189 rln_189 h (fun hi3 => (rfr_189 _ (inb_lt hi3))) (fun hi3 h => ?_)
          refine rw_iload_n 39 dX3_leastPart_39 2 rfl ?_
          refine rw_iload_n 40 dX3_leastPart_40 3 rfl ?_
          refine rw_ixor 41 dX3_leastPart_41 ?_
          refine rn_iald 42 dX3_leastPart_42 (lyr_189 _ (inb_lt hi3)) (ltr_189 _ (inb_lt hi3)) h (fun h => ?_)
          refine rw_iadd 43 dX3_leastPart_43 ?_
          refine rw_aload_n 44 dX3_leastPart_44 0 rfl ?_
          refine rw_getR 45 3 1 kc3 dX3_leastPart_45 ly_183 rln_183 fX3_16 rfl rf_183_1 ?_
          refine rw_iload_n 48 dX3_leastPart_48 1 rfl ?_
          refine rw_iconst 49 (v := 1) dX3_leastPart_49 (by decide) ?_
          refine rw_iadd 50 dX3_leastPart_50 ?_
          refine rn_aald 51 5 (by decide) dX3_leastPart_51 ly_189 rln_189 h (fun hi4 => (rfr_189 _ (inb_lt hi4))) (fun hi4 h => ?_)
          refine rw_iload_n 52 dX3_leastPart_52 2 rfl ?_
          refine rn_iald 53 dX3_leastPart_53 (lyr_189 _ (inb_lt hi4)) (ltr_189 _ (inb_lt hi4)) h (fun h => ?_)
          refine rn_icmp_ne 54 59 dX3_leastPart_54 (by decide) h (fun _ h => ?_) (fun _ h => ?_)
          · refine rw_iinc 59 [(0, .ref 183), (1, .int v1), (2, .int v2), (3, .int (v3 + 1)), (4, .int x2)] dX3_leastPart_59 3 rfl rfl (by decide) rfl ?_
            refine rw_goto 62 2 dX3_leastPart_62 (by decide) ?_
            refine rw_pick 2 [0, 1, 2, 3] rfl ?_
            exact ih (v3 + 1) h
          · refine rw_iload_n 57 dX3_leastPart_57 3 rfl ?_
            exact rn_iret 58 dX3_leastPart_58 rfl h
set_option maxRecDepth 100000 in
theorem wX3_leastPart (a1 : Int32) (a2 : Int32) (μ : Mem) {res : Int32} (h : fX3_leastPart a1 a2 μ = some res) : Ct mX3_leastPart 1 NF NF [.ref 183, .int a1, .int a2] (μ, Rf0, NF) (QN (some (.int res)) μ Rf0 NF) := by
  unfold fX3_leastPart at h
  show RW mX3_leastPart 1 NF NF 0 [(0, .ref 183), (1, .int a1), (2, .int a2)] [] (μ, Rf0, NF) (QN (some (.int res)) μ Rf0 NF)
  refine rw_iconst 0 (v := 0) dX3_leastPart_0 (by decide) ?_
  refine rw_istore_n 1 [(0, .ref 183), (1, .int a1), (2, .int a2), (3, .int 0)] dX3_leastPart_1 (by decide) rfl ?_
  refine wX3_leastPart_2 a1 a2 μ _ (fun _ h => ?_) FU 0 h
  refine rw_iconst 65 (v := 0) dX3_leastPart_65 (by decide) ?_
  exact rn_iret 66 dX3_leastPart_66 rfl h
def fX3_setLetIn_14 (t1 : Nat)  (v3 : Int32) (μ : Mem) (K : Int32 → Option (Int32)) : Nat → Int32 → Int32 → Int32 → Option (Int32)
  | 0, _, _, _ => none
  | n + 1, v4, v5, v6 =>
    if v6 < v3 then
      K v5
    else
      (fX3_leastPart v6 v4 μ).bind fun q2 =>
      fX3_setLetIn_14 t1 v3 μ K n (v4 ^^^ q2) q2 (v6 + (-1))
def fX3_setLetIn (t1 : Nat) (a2 : Int32) (a3 : Int32) (μ : Mem) : Option (Int32) :=
  nm ((μ.1 t1 0) - 1) fun x1 =>
  fX3_setLetIn_14 t1 a3 μ (fun y3 =>
      some y3
  ) FU a2 0 x1
set_option maxRecDepth 100000 in
theorem wX3_setLetIn_14 (t1 : Nat) (ht1 : okX7 Rf0 NF t1)  (v3 : Int32) (μ : Mem) (K : Int32 → Option (Int32)) {res : Int32} (hK : ∀ (v5 : Int32), K v5 = some res → RW mX3_setLetIn 2 NF NF 43 [(5, .int v5)] [] (μ, Rf0, NF) (QN (some (.int res)) μ Rf0 NF)) : ∀ (n9 : Nat) (v4 : Int32) (v5 : Int32) (v6 : Int32), fX3_setLetIn_14 t1 v3 μ K n9 v4 v5 v6 = some res → RW mX3_setLetIn 2 NF NF 14 [(0, .ref 183), (3, .int v3), (4, .int v4), (5, .int v5), (6, .int v6)] [] (μ, Rf0, NF) (QN (some (.int res)) μ Rf0 NF) := by
  intro n9
  induction n9 with
  | zero => intro _ _ _ h; cases h
  | succ n ih =>
    intro v4 v5 v6 h
    unfold fX3_setLetIn_14 at h
    refine rw_iload 14 dX3_setLetIn_14 4 rfl ?_
    refine rw_iload_n 16 dX3_setLetIn_16 1 rfl ?_
    refine rn_icmp_lt 17 43 dX3_setLetIn_17 (by decide) h (fun _ h => ?_) (fun _ h => ?_)
    · refine rw_pick 43 [3] rfl ?_
      exact hK v5 h
    · refine rw_aload_n 20 dX3_setLetIn_20 0 rfl ?_
      refine rw_iload 21 dX3_setLetIn_21 4 rfl ?_
      refine rw_iload 23 dX3_setLetIn_23 2 rfl ?_
      refine rn_cVpi 25 3 [.int v6, .int v4] dX3_setLetIn_25 caX3_leastPart lX3_74 inX3_leastPart slX3_leastPart rfl ly_183 ⟨_, rfl, rfl⟩ rln_183 naX3_leastPart (Nat.le_of_ble_eq_true rfl) (Nat.le_of_ble_eq_true rfl) (by decide) (fun _ hq => wX3_leastPart v6 v4 μ hq) h (fun q2 h => ?_)
      refine rw_istore 28 [(0, .ref 183), (3, .int v3), (4, .int v4), (5, .int q2), (6, .int v6)] dX3_setLetIn_28 (by decide) rfl ?_
      refine rw_iload 30 dX3_setLetIn_30 2 rfl ?_
      refine rw_iload 32 dX3_setLetIn_32 3 rfl ?_
      refine rw_ixor 34 dX3_setLetIn_34 ?_
      refine rw_istore 35 [(0, .ref 183), (3, .int v3), (4, .int (v4 ^^^ q2)), (5, .int q2), (6, .int v6)] dX3_setLetIn_35 (by decide) rfl ?_
      refine rw_iinc 37 [(0, .ref 183), (3, .int v3), (4, .int (v4 ^^^ q2)), (5, .int q2), (6, .int (v6 + (-1)))] dX3_setLetIn_37 4 rfl rfl (by decide) rfl ?_
      refine rw_goto 40 14 dX3_setLetIn_40 (by decide) ?_
      exact ih (v4 ^^^ q2) q2 (v6 + (-1)) h
set_option maxRecDepth 100000 in
theorem wX3_setLetIn (t1 : Nat) (ht1 : okX7 Rf0 NF t1) (a2 : Int32) (a3 : Int32) (μ : Mem) {res : Int32} (h : fX3_setLetIn t1 a2 a3 μ = some res) : Ct mX3_setLetIn 2 NF NF [.ref 183, .ref t1, .int a2, .int a3] (μ, Rf0, NF) (QN (some (.int res)) μ Rf0 NF) := by
  unfold fX3_setLetIn at h
  show RW mX3_setLetIn 2 NF NF 0 [(0, .ref 183), (1, .ref t1), (2, .int a2), (3, .int a3)] [] (μ, Rf0, NF) (QN (some (.int res)) μ Rf0 NF)
  refine rw_iload_n 0 dX3_setLetIn_0 2 rfl ?_
  refine rw_istore 1 [(0, .ref 183), (1, .ref t1), (2, .int a2), (3, .int a3), (4, .int a2)] dX3_setLetIn_1 (by decide) rfl ?_
  refine rw_iconst 3 (v := 0) dX3_setLetIn_3 (by decide) ?_
  refine rw_istore 4 [(0, .ref 183), (1, .ref t1), (2, .int a2), (3, .int a3), (4, .int a2), (5, .int 0)] dX3_setLetIn_4 (by decide) rfl ?_
  refine rw_aload_n 6 dX3_setLetIn_6 1 rfl ?_
  refine rw_getI 7 7 0 kc7 dX3_setLetIn_7 (o7l ht1) (o7n ht1) fX3_62 rfl ?_
  refine rw_iconst 10 (v := 1) dX3_setLetIn_10 (by decide) ?_
  refine rw_isub 11 dX3_setLetIn_11 ?_
  refine rn_ist 12 (fun x1 => [(0, .ref 183), (1, .ref t1), (2, .int a2), (3, .int a3), (4, .int a2), (5, .int 0), (6, .int x1)]) dX3_setLetIn_12 (by decide) (fun _ => rfl) h (fun x1 h => ?_)
  refine rw_pick 14 [0, 3, 4, 5, 6] rfl ?_
  refine wX3_setLetIn_14 t1 ht1 a3 μ _ (fun y3 h => ?_) FU a2 0 x1 h
  refine rw_iload 43 dX3_setLetIn_43 0 rfl ?_
  exact rn_iret 45 dX3_setLetIn_45 rfl h
def fX10_letting_17   (v1 : Int32)  (K : Mem → Option (Int32 × Mem)) : Nat → Int32 → Mem → Option (Int32 × Mem)
  | 0, _, _ => none
  | n + 1, v2, μ =>
    if v2 < (μ.1 199 0) then
      (fX3_valueSets 199 9 v2 μ).bind fun q1 =>
      fX10_letting_17 v1 K n (v2 + 1) q1
    else
      K μ
def fX10_letting (a1 : Int32) (μ : Mem) : Option (Int32 × Mem) :=
  if a1 = (-1) then
    fX10_letting_17 a1 (fun μ2 =>
        (fX3_letAll 199 μ2).bind fun q3 =>
        (fX5_alive 9 199 q3).bind fun q4 =>
        if a1 = (-1) then
          if inb (q3.1 199 0) 5 then
          if inb q4 128 then
          some ((q3.1 (190 + (q3.1 199 0).toNatClampNeg) q4.toNatClampNeg), q3)
          else none
          else none
        else
          (fX3_setLetIn 199 q4 a1 q3).bind fun q5 =>
          some (q5, q3)
    ) FU 0 μ
  else
    (fX10_isSunday a1 μ).bind fun q7 =>
    if q7 = true then
      fX10_letting_17 a1 (fun μ8 =>
          (fX3_letAll 199 μ8).bind fun q9 =>
          (fX5_alive 9 199 q9).bind fun q10 =>
          if a1 = (-1) then
            if inb (q9.1 199 0) 5 then
            if inb q10 128 then
            some ((q9.1 (190 + (q9.1 199 0).toNatClampNeg) q10.toNatClampNeg), q9)
            else none
            else none
          else
            (fX3_setLetIn 199 q10 a1 q9).bind fun q11 =>
            some (q11, q9)
      ) FU 0 μ
    else
      some ((-1), μ)
set_option maxRecDepth 100000 in
theorem wX10_letting_17   (v1 : Int32)  (K : Mem → Option (Int32 × Mem)) {res : Int32 × Mem} (hK : ∀  (μ : Mem), K μ = some res → RW mX10_letting 6 NF NF 54 [(0, .ref 0), (1, .int v1)] [] (μ, Rf0, NF) (QN (some (.int res.1)) res.2 Rf0 NF)) : ∀ (n9 : Nat) (v2 : Int32) (μ : Mem), fX10_letting_17 v1 K n9 v2 μ = some res → RW mX10_letting 6 NF NF 17 [(0, .ref 0), (1, .int v1), (2, .int v2)] [] (μ, Rf0, NF) (QN (some (.int res.1)) res.2 Rf0 NF) := by
  intro n9
  induction n9 with
  | zero => intro _ _ h; cases h
  | succ n ih =>
    intro v2 μ h
    unfold fX10_letting_17 at h
    refine rw_iload_n 17 dX10_letting_17 2 rfl ?_
    refine rw_aload_n 18 dX10_letting_18 0 rfl ?_
    refine rw_getR 19 10 9 kc10 dX10_letting_19 ly_0 rln_0 fX10_68 rfl rf_0_9 ?_
    refine rw_getI 22 7 0 kc7 dX10_letting_22 ly_199 rln_199 fX10_214 rfl ?_
    refine rn_icmp_ge 25 54 dX10_letting_25 (by decide) h (fun _ h => ?_) (fun _ h => ?_)
    · refine rw_pick 54 [0, 1] rfl ?_
      exact hK μ h
    · refine rw_aload_n 28 dX10_letting_28 0 rfl ?_
      refine rw_getR 29 10 7 kc10 dX10_letting_29 ly_0 rln_0 fX10_54 rfl rf_0_7 ?_
      refine rw_aload_n 32 dX10_letting_32 0 rfl ?_
      refine rw_getR 33 10 6 kc10 dX10_letting_33 ly_0 rln_0 fX10_47 rfl rf_0_6 ?_
      refine rw_aload_n 36 dX10_letting_36 0 rfl ?_
      refine rw_getR 37 10 9 kc10 dX10_letting_37 ly_0 rln_0 fX10_68 rfl rf_0_9 ?_
      refine rw_aload_n 40 dX10_letting_40 0 rfl ?_
      refine rw_getR 41 10 2 kc10 dX10_letting_41 ly_0 rln_0 fX10_26 rfl rf_0_2 ?_
      refine rw_iload_n 44 dX10_letting_44 2 rfl ?_
      refine rn_cVmv 45 3 [.ref 180, .ref 199, .ref 9, .int v2] dX10_letting_45 caX3_valueSets lX10_202 inX3_valueSets slX3_valueSets rfl ly_183 ⟨_, rfl, rfl⟩ rln_183 naX3_valueSets (Nat.le_of_ble_eq_true rfl) (Nat.le_of_ble_eq_true rfl) (by decide) (fun _ hq => wX3_valueSets 199 okX7_199 9 okX5_9 v2 μ hq) h (fun q1 h => ?_)
      refine rw_iinc 48 [(0, .ref 0), (1, .int v1), (2, .int (v2 + 1))] dX10_letting_48 2 rfl rfl (by decide) rfl ?_
      refine rw_goto 51 17 dX10_letting_51 (by decide) ?_
      exact ih (v2 + 1) q1 h
set_option maxRecDepth 100000 in
theorem wX10_letting (a1 : Int32) (μ : Mem) {res : Int32 × Mem} (h : fX10_letting a1 μ = some res) : Ct mX10_letting 6 NF NF [.ref 0, .int a1] (μ, Rf0, NF) (QN (some (.int res.1)) res.2 Rf0 NF) := by
  unfold fX10_letting at h
  show RW mX10_letting 6 NF NF 0 [(0, .ref 0), (1, .int a1)] [] (μ, Rf0, NF) (QN (some (.int res.1)) res.2 Rf0 NF)
  refine rw_iload_n 0 dX10_letting_0 1 rfl ?_
  refine rw_iconst 1 (v := -1) dX10_letting_1 (by decide) ?_
  refine rn_icmp_eq 2 15 dX10_letting_2 (by decide) h (fun _ h => ?_) (fun _ h => ?_)
  · refine rw_iconst 15 (v := 0) dX10_letting_15 (by decide) ?_
    refine rw_istore_n 16 [(0, .ref 0), (1, .int a1), (2, .int 0)] dX10_letting_16 (by decide) rfl ?_
    refine wX10_letting_17 a1 _ (fun μ2 h => ?_) FU 0 μ h
    refine rw_aload_n 54 dX10_letting_54 0 rfl ?_
    refine rw_getR 55 10 7 kc10 dX10_letting_55 ly_0 rln_0 fX10_54 rfl rf_0_7 ?_
    refine rw_aload_n 58 dX10_letting_58 0 rfl ?_
    refine rw_getR 59 10 9 kc10 dX10_letting_59 ly_0 rln_0 fX10_68 rfl rf_0_9 ?_
    refine rn_cVmv 62 3 [.ref 199] dX10_letting_62 caX3_letAll lX10_217 inX3_letAll slX3_letAll rfl ly_183 ⟨_, rfl, rfl⟩ rln_183 naX3_letAll (Nat.le_of_ble_eq_true rfl) (Nat.le_of_ble_eq_true rfl) (by decide) (fun _ hq => wX3_letAll 199 okX7_199 μ2 hq) h (fun q3 h => ?_)
    refine rw_aload_n 65 dX10_letting_65 0 rfl ?_
    refine rw_getR 66 10 2 kc10 dX10_letting_66 ly_0 rln_0 fX10_26 rfl rf_0_2 ?_
    refine rw_aload_n 69 dX10_letting_69 0 rfl ?_
    refine rw_getR 70 10 9 kc10 dX10_letting_70 ly_0 rln_0 fX10_68 rfl rf_0_9 ?_
    refine rn_cVpi 73 5 [.ref 199] dX10_letting_73 caX5_alive lX10_221 inX5_alive slX5_alive rfl ly_9 ⟨_, rfl, rfl⟩ rln_9 naX5_alive (Nat.le_of_ble_eq_true rfl) (Nat.le_of_ble_eq_true rfl) (by decide) (fun _ hq => wX5_alive 9 okX5_9 199 okX7_199 q3 hq) h (fun q4 h => ?_)
    refine rw_istore_n 76 [(0, .ref 0), (1, .int a1), (2, .int q4)] dX10_letting_76 (by decide) rfl ?_
    refine rw_iload_n 77 dX10_letting_77 1 rfl ?_
    refine rw_iconst 78 (v := -1) dX10_letting_78 (by decide) ?_
    refine rn_icmp_ne 79 102 dX10_letting_79 (by decide) h (fun _ h => ?_) (fun _ h => ?_)
    · refine rw_aload_n 102 dX10_letting_102 0 rfl ?_
      refine rw_getR 103 10 7 kc10 dX10_letting_103 ly_0 rln_0 fX10_54 rfl rf_0_7 ?_
      refine rw_aload_n 106 dX10_letting_106 0 rfl ?_
      refine rw_getR 107 10 9 kc10 dX10_letting_107 ly_0 rln_0 fX10_68 rfl rf_0_9 ?_
      refine rw_iload_n 110 dX10_letting_110 2 rfl ?_
      refine rw_iload_n 111 dX10_letting_111 1 rfl ?_
      refine rn_cVpi 112 3 [.ref 199, .int q4, .int a1] dX10_letting_112 caX3_setLetIn lX10_228 inX3_setLetIn slX3_setLetIn rfl ly_183 ⟨_, rfl, rfl⟩ rln_183 naX3_setLetIn (Nat.le_of_ble_eq_true rfl) (Nat.le_of_ble_eq_true rfl) (by decide) (fun _ hq => wX3_setLetIn 199 okX7_199 q4 a1 q3 hq) h (fun q5 h => ?_)
      exact rn_iret2 115 dX10_letting_115 rfl h
    · refine rw_aload_n 82 dX10_letting_82 0 rfl ?_
      refine rw_getR 83 10 7 kc10 dX10_letting_83 ly_0 rln_0 fX10_54 rfl rf_0_7 ?_
      refine rw_getR 86 3 1 kc3 dX10_letting_86 ly_183 rln_183 fX10_225 rfl rf_183_1 ?_
      refine rw_aload_n 89 dX10_letting_89 0 rfl ?_
      refine rw_getR 90 10 9 kc10 dX10_letting_90 ly_0 rln_0 fX10_68 rfl rf_0_9 ?_
      refine rw_getI 93 7 0 kc7 dX10_letting_93 ly_199 rln_199 fX10_214 rfl ?_
      refine rn_aald 96 5 (by decide) dX10_letting_96 ly_189 rln_189 h (fun hi6 => (rfr_189 _ (inb_lt hi6))) (fun hi6 h => ?_)
      refine rw_iload_n 97 dX10_letting_97 2 rfl ?_
      refine rn_iald 98 dX10_letting_98 (lyr_189 _ (inb_lt hi6)) (ltr_189 _ (inb_lt hi6)) h (fun h => ?_)
      refine rw_goto 99 115 dX10_letting_99 (by decide) ?_
      exact rn_iret2 115 dX10_letting_115 rfl h
  · refine rw_aload_n 5 dX10_letting_5 0 rfl ?_
    refine rw_iload_n 6 dX10_letting_6 1 rfl ?_
    refine rn_cVpb 7 10 [.int a1] dX10_letting_7 caX10_isSunday lX10_107 inX10_isSunday slX10_isSunday rfl ly_0 ⟨_, rfl, rfl⟩ rln_0 naX10_isSunday (Nat.le_of_ble_eq_true rfl) (Nat.le_of_ble_eq_true rfl) (by decide) (fun _ hq => wX10_isSunday a1 μ hq) h (fun q7 h => ?_)
    refine rn_ifb_ne 10 15 dX10_letting_10 (by decide) h (fun _ h => ?_) (fun _ h => ?_)
    · refine rw_iconst 15 (v := 0) dX10_letting_15 (by decide) ?_
      refine rw_istore_n 16 [(0, .ref 0), (1, .int a1), (2, .int 0)] dX10_letting_16 (by decide) rfl ?_
      refine wX10_letting_17 a1 _ (fun μ8 h => ?_) FU 0 μ h
      refine rw_aload_n 54 dX10_letting_54 0 rfl ?_
      refine rw_getR 55 10 7 kc10 dX10_letting_55 ly_0 rln_0 fX10_54 rfl rf_0_7 ?_
      refine rw_aload_n 58 dX10_letting_58 0 rfl ?_
      refine rw_getR 59 10 9 kc10 dX10_letting_59 ly_0 rln_0 fX10_68 rfl rf_0_9 ?_
      refine rn_cVmv 62 3 [.ref 199] dX10_letting_62 caX3_letAll lX10_217 inX3_letAll slX3_letAll rfl ly_183 ⟨_, rfl, rfl⟩ rln_183 naX3_letAll (Nat.le_of_ble_eq_true rfl) (Nat.le_of_ble_eq_true rfl) (by decide) (fun _ hq => wX3_letAll 199 okX7_199 μ8 hq) h (fun q9 h => ?_)
      refine rw_aload_n 65 dX10_letting_65 0 rfl ?_
      refine rw_getR 66 10 2 kc10 dX10_letting_66 ly_0 rln_0 fX10_26 rfl rf_0_2 ?_
      refine rw_aload_n 69 dX10_letting_69 0 rfl ?_
      refine rw_getR 70 10 9 kc10 dX10_letting_70 ly_0 rln_0 fX10_68 rfl rf_0_9 ?_
      refine rn_cVpi 73 5 [.ref 199] dX10_letting_73 caX5_alive lX10_221 inX5_alive slX5_alive rfl ly_9 ⟨_, rfl, rfl⟩ rln_9 naX5_alive (Nat.le_of_ble_eq_true rfl) (Nat.le_of_ble_eq_true rfl) (by decide) (fun _ hq => wX5_alive 9 okX5_9 199 okX7_199 q9 hq) h (fun q10 h => ?_)
      refine rw_istore_n 76 [(0, .ref 0), (1, .int a1), (2, .int q10)] dX10_letting_76 (by decide) rfl ?_
      refine rw_iload_n 77 dX10_letting_77 1 rfl ?_
      refine rw_iconst 78 (v := -1) dX10_letting_78 (by decide) ?_
      refine rn_icmp_ne 79 102 dX10_letting_79 (by decide) h (fun _ h => ?_) (fun _ h => ?_)
      · refine rw_aload_n 102 dX10_letting_102 0 rfl ?_
        refine rw_getR 103 10 7 kc10 dX10_letting_103 ly_0 rln_0 fX10_54 rfl rf_0_7 ?_
        refine rw_aload_n 106 dX10_letting_106 0 rfl ?_
        refine rw_getR 107 10 9 kc10 dX10_letting_107 ly_0 rln_0 fX10_68 rfl rf_0_9 ?_
        refine rw_iload_n 110 dX10_letting_110 2 rfl ?_
        refine rw_iload_n 111 dX10_letting_111 1 rfl ?_
        refine rn_cVpi 112 3 [.ref 199, .int q10, .int a1] dX10_letting_112 caX3_setLetIn lX10_228 inX3_setLetIn slX3_setLetIn rfl ly_183 ⟨_, rfl, rfl⟩ rln_183 naX3_setLetIn (Nat.le_of_ble_eq_true rfl) (Nat.le_of_ble_eq_true rfl) (by decide) (fun _ hq => wX3_setLetIn 199 okX7_199 q10 a1 q9 hq) h (fun q11 h => ?_)
        exact rn_iret2 115 dX10_letting_115 rfl h
      · refine rw_aload_n 82 dX10_letting_82 0 rfl ?_
        refine rw_getR 83 10 7 kc10 dX10_letting_83 ly_0 rln_0 fX10_54 rfl rf_0_7 ?_
        refine rw_getR 86 3 1 kc3 dX10_letting_86 ly_183 rln_183 fX10_225 rfl rf_183_1 ?_
        refine rw_aload_n 89 dX10_letting_89 0 rfl ?_
        refine rw_getR 90 10 9 kc10 dX10_letting_90 ly_0 rln_0 fX10_68 rfl rf_0_9 ?_
        refine rw_getI 93 7 0 kc7 dX10_letting_93 ly_199 rln_199 fX10_214 rfl ?_
        refine rn_aald 96 5 (by decide) dX10_letting_96 ly_189 rln_189 h (fun hi12 => (rfr_189 _ (inb_lt hi12))) (fun hi12 h => ?_)
        refine rw_iload_n 97 dX10_letting_97 2 rfl ?_
        refine rn_iald 98 dX10_letting_98 (lyr_189 _ (inb_lt hi12)) (ltr_189 _ (inb_lt hi12)) h (fun h => ?_)
        refine rw_goto 99 115 dX10_letting_99 (by decide) ?_
        exact rn_iret2 115 dX10_letting_115 rfl h
    · refine rw_iconst 13 (v := -1) dX10_letting_13 (by decide) ?_
      exact rn_iret2 14 dX10_letting_14 rfl h
