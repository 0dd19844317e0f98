def fX10_gap_48   (v1 : Int32) (v2 : Int32) (v3 : Int64) (μ : Mem) (K : Int32 → Int32 → Option (Int32)) : Nat → Int32 → Int32 → Int32 → Int32 → Option (Int32)
  | 0, _, _, _, _ => none
  | n + 1, v5, v6, v7, v8 =>
    if inb v1 4 then
    if v8 < (μ.1 200 v1.toNatClampNeg) then
      if ((lush v3 v8) &&& 1) = 0 then
        if v5 < (v7 + 1) then
          nm ((v8 - (v7 + 1)) + 1) fun x5 =>
          fX10_gap_48 v1 v2 v3 μ K n (v7 + 1) x5 (v7 + 1) (v8 + 1)
        else
          fX10_gap_48 v1 v2 v3 μ K n v5 v6 (v7 + 1) (v8 + 1)
      else
        if v5 < 0 then
          nm ((v8 - 0) + 1) fun x4 =>
          fX10_gap_48 v1 v2 v3 μ K n 0 x4 0 (v8 + 1)
        else
          fX10_gap_48 v1 v2 v3 μ K n v5 v6 0 (v8 + 1)
    else
      K v5 v6
    else none
def fX10_gap (a1 : Int32) (a2 : Int32) (μ : Mem) : Option (Int32) :=
  (fX10_isSunday a1 μ).bind fun q1 =>
  if q1 = true then
    (fX10_isOneOfTwo a2 μ).bind fun q2 =>
    if q2 = true then
      if inb a1 4 then
      (fX7_spanOf 199 (μ.1 10 a1.toNatClampNeg) μ).bind fun q3 =>
      fX10_gap_48 a1 a2 q3 μ (fun y6 y7 =>
          if a2 = 0 then
            some y6
          else
            some y7
      ) FU 0 (-2) 0 0
      else none
    else
      some (-1)
  else
    some (-1)
set_option maxRecDepth 100000 in
theorem wX10_gap_48   (v1 : Int32) (v2 : Int32) (v3 : Int64) (μ : Mem) (K : Int32 → Int32 → Option (Int32)) {res : Int32} (hK : ∀ (v5 : Int32) (v6 : Int32), K v5 v6 = some res → RW mX10_gap 2 NF NF 109 [(2, .int v2), (5, .int v5), (6, .int v6)] [] (μ, Rf0, NF) (QN (some (.int res)) μ Rf0 NF)) : ∀ (n9 : Nat) (v5 : Int32) (v6 : Int32) (v7 : Int32) (v8 : Int32), fX10_gap_48 v1 v2 v3 μ K n9 v5 v6 v7 v8 = some res → RW mX10_gap 2 NF NF 48 [(0, .ref 0), (1, .int v1), (2, .int v2), (3, .long v3), (5, .int v5), (6, .int v6), (7, .int v7), (8, .int v8)] [] (μ, Rf0, NF) (QN (some (.int res)) μ Rf0 NF) := by
  intro n9
  induction n9 with
  | zero => intro _ _ _ _ h; cases h
  | succ n ih =>
    intro v5 v6 v7 v8 h
    unfold fX10_gap_48 at h
    refine rw_iload 48 dX10_gap_48 7 rfl ?_
    refine rw_aload_n 50 dX10_gap_50 0 rfl ?_
    refine rw_getR 51 10 9 kc10 dX10_gap_51 ly_0 rln_0 fX10_68 rfl rf_0_9 ?_
    refine rw_getR 54 7 1 kc7 dX10_gap_54 ly_199 rln_199 fX10_110 rfl rf_199_1 ?_
    refine rw_iload_n 57 dX10_gap_57 1 rfl ?_
    refine rn_iald 58 dX10_gap_58 ly_200 rln_200 h (fun h => ?_)
    refine rn_icmp_ge 59 109 dX10_gap_59 (by decide) h (fun _ h => ?_) (fun _ h => ?_)
    · refine rw_pick 109 [2, 4, 5] rfl ?_
      exact hK v5 v6 h
    · refine rw_lload_n 62 dX10_gap_62 3 rfl ?_
      refine rw_iload 63 dX10_gap_63 7 rfl ?_
      refine rw_lushr 65 dX10_gap_65 ?_
      refine rw_lconst 66 (v := 1) dX10_gap_66 (by decide) ?_
      refine rw_land 67 dX10_gap_67 ?_
      refine rw_lconst 68 (v := 0) dX10_gap_68 (by decide) ?_
      refine rn_lcmp_ne 69 80 dX10_gap_69 dX10_gap_70 (by decide) h (fun _ h => ?_) (fun _ h => ?_)
      · refine rw_iconst 80 (v := 0) dX10_gap_80 (by decide) ?_
        refine rw_istore 81 [(0, .ref 0), (1, .int v1), (2, .int v2), (3, .long v3), (5, .int v5), (6, .int v6), (7, .int 0), (8, .int v8)] dX10_gap_81 (by decide) rfl ?_
        refine rw_iload 83 dX10_gap_83 6 rfl ?_
        refine rw_iload 85 dX10_gap_85 4 rfl ?_
        refine rn_icmp_le 87 103 dX10_gap_87 (by decide) h (fun _ h => ?_) (fun _ h => ?_)
        · refine rw_iinc 103 [(0, .ref 0), (1, .int v1), (2, .int v2), (3, .long v3), (5, .int v5), (6, .int v6), (7, .int 0), (8, .int (v8 + 1))] dX10_gap_103 7 rfl rfl (by decide) rfl ?_
          refine rw_goto 106 48 dX10_gap_106 (by decide) ?_
          exact ih v5 v6 0 (v8 + 1) h
        · refine rw_iload 90 dX10_gap_90 6 rfl ?_
          refine rw_istore 92 [(0, .ref 0), (1, .int v1), (2, .int v2), (3, .long v3), (5, .int 0), (6, .int v6), (7, .int 0), (8, .int v8)] dX10_gap_92 (by decide) rfl ?_
          refine rw_iload 94 dX10_gap_94 7 rfl ?_
          refine rw_iload 96 dX10_gap_96 6 rfl ?_
          refine rw_isub 98 dX10_gap_98 ?_
          refine rw_iconst 99 (v := 1) dX10_gap_99 (by decide) ?_
          refine rw_iadd 100 dX10_gap_100 ?_
          refine rn_ist 101 (fun x4 => [(0, .ref 0), (1, .int v1), (2, .int v2), (3, .long v3), (5, .int 0), (6, .int x4), (7, .int 0), (8, .int v8)]) dX10_gap_101 (by decide) (fun _ => rfl) h (fun x4 h => ?_)
          refine rw_iinc 103 [(0, .ref 0), (1, .int v1), (2, .int v2), (3, .long v3), (5, .int 0), (6, .int x4), (7, .int 0), (8, .int (v8 + 1))] dX10_gap_103 7 rfl rfl (by decide) rfl ?_
          refine rw_goto 106 48 dX10_gap_106 (by decide) ?_
          exact ih 0 x4 0 (v8 + 1) h
      · refine rw_iload 73 dX10_gap_73 6 rfl ?_
        refine rw_iconst 75 (v := 1) dX10_gap_75 (by decide) ?_
        refine rw_iadd 76 dX10_gap_76 ?_
        refine rw_goto 77 81 dX10_gap_77 (by decide) ?_
        refine rw_istore 81 [(0, .ref 0), (1, .int v1), (2, .int v2), (3, .long v3), (5, .int v5), (6, .int v6), (7, .int (v7 + 1)), (8, .int v8)] dX10_gap_81 (by decide) rfl ?_
        refine rw_iload 83 dX10_gap_83 6 rfl ?_
        refine rw_iload 85 dX10_gap_85 4 rfl ?_
        refine rn_icmp_le 87 103 dX10_gap_87 (by decide) h (fun _ h => ?_) (fun _ h => ?_)
        · refine rw_iinc 103 [(0, .ref 0), (1, .int v1), (2, .int v2), (3, .long v3), (5, .int v5), (6, .int v6), (7, .int (v7 + 1)), (8, .int (v8 + 1))] dX10_gap_103 7 rfl rfl (by decide) rfl ?_
          refine rw_goto 106 48 dX10_gap_106 (by decide) ?_
          exact ih v5 v6 (v7 + 1) (v8 + 1) h
        · refine rw_iload 90 dX10_gap_90 6 rfl ?_
          refine rw_istore 92 [(0, .ref 0), (1, .int v1), (2, .int v2), (3, .long v3), (5, .int (v7 + 1)), (6, .int v6), (7, .int (v7 + 1)), (8, .int v8)] dX10_gap_92 (by decide) rfl ?_
          refine rw_iload 94 dX10_gap_94 7 rfl ?_
          refine rw_iload 96 dX10_gap_96 6 rfl ?_
          refine rw_isub 98 dX10_gap_98 ?_
          refine rw_iconst 99 (v := 1) dX10_gap_99 (by decide) ?_
          refine rw_iadd 100 dX10_gap_100 ?_
          refine rn_ist 101 (fun x5 => [(0, .ref 0), (1, .int v1), (2, .int v2), (3, .long v3), (5, .int (v7 + 1)), (6, .int x5), (7, .int (v7 + 1)), (8, .int v8)]) dX10_gap_101 (by decide) (fun _ => rfl) h (fun x5 h => ?_)
          refine rw_iinc 103 [(0, .ref 0), (1, .int v1), (2, .int v2), (3, .long v3), (5, .int (v7 + 1)), (6, .int x5), (7, .int (v7 + 1)), (8, .int (v8 + 1))] dX10_gap_103 7 rfl rfl (by decide) rfl ?_
          refine rw_goto 106 48 dX10_gap_106 (by decide) ?_
          exact ih (v7 + 1) x5 (v7 + 1) (v8 + 1) h
set_option maxRecDepth 100000 in
theorem wX10_gap (a1 : Int32) (a2 : Int32) (μ : Mem) {res : Int32} (h : fX10_gap a1 a2 μ = some res) : Ct mX10_gap 2 NF NF [.ref 0, .int a1, .int a2] (μ, Rf0, NF) (QN (some (.int res)) μ Rf0 NF) := by
  unfold fX10_gap at h
  show RW mX10_gap 2 NF NF 0 [(0, .ref 0), (1, .int a1), (2, .int a2)] [] (μ, Rf0, NF) (QN (some (.int res)) μ Rf0 NF)
  refine rw_aload_n 0 dX10_gap_0 0 rfl ?_
  refine rw_iload_n 1 dX10_gap_1 1 rfl ?_
  refine rn_cVpb 2 10 [.int a1] dX10_gap_2 caX10_isSunday lX10_107 inX10_isSunday slX10_isSunday rfl ly_0 ⟨_, rfl, rfl⟩ rln_0 naX10_isSunday (Nat.le_of_ble_eq_true rfl) (Nat.le_of_ble_eq_true rfl) (by decide) (fun _ hq => wX10_isSunday a1 μ hq) h (fun q1 h => ?_)
  refine rn_ifb_eq 5 16 dX10_gap_5 (by decide) h (fun _ h => ?_) (fun _ h => ?_)
  · refine rw_iconst 16 (v := -1) dX10_gap_16 (by decide) ?_
    exact rn_iret 17 dX10_gap_17 rfl h
  · refine rw_aload_n 8 dX10_gap_8 0 rfl ?_
    refine rw_iload_n 9 dX10_gap_9 2 rfl ?_
    refine rn_cVpb 10 10 [.int a2] dX10_gap_10 caX10_isOneOfTwo lX10_199 inX10_isOneOfTwo slX10_isOneOfTwo rfl ly_0 ⟨_, rfl, rfl⟩ rln_0 naX10_isOneOfTwo (Nat.le_of_ble_eq_true rfl) (Nat.le_of_ble_eq_true rfl) (by decide) (fun _ hq => wX10_isOneOfTwo a2 μ hq) h (fun q2 h => ?_)
    refine rn_ifb_ne 13 18 dX10_gap_13 (by decide) h (fun _ h => ?_) (fun _ h => ?_)
    · refine rw_aload_n 18 dX10_gap_18 0 rfl ?_
      refine rw_getR 19 10 9 kc10 dX10_gap_19 ly_0 rln_0 fX10_68 rfl rf_0_9 ?_
      refine rw_aload_n 22 dX10_gap_22 0 rfl ?_
      refine rw_getR 23 10 2 kc10 dX10_gap_23 ly_0 rln_0 fX10_26 rfl rf_0_2 ?_
      refine rw_getR 26 5 4 kc5 dX10_gap_26 ly_9 rln_9 fX10_123 rfl rf_9_4 ?_
      refine rw_iload_n 29 dX10_gap_29 1 rfl ?_
      refine rn_iald 30 dX10_gap_30 ly_10 rln_10 h (fun h => ?_)
      refine rn_cVpl 31 7 [.int (μ.1 10 a1.toNatClampNeg)] dX10_gap_31 caX7_spanOf lX10_269 inX7_spanOf slX7_spanOf rfl ly_199 ⟨_, rfl, rfl⟩ rln_199 naX7_spanOf (Nat.le_of_ble_eq_true rfl) (Nat.le_of_ble_eq_true rfl) (by decide) (fun _ hq => wX7_spanOf 199 okX7_199 (μ.1 10 a1.toNatClampNeg) μ hq) h (fun q3 h => ?_)
      refine rw_lstore_n 34 [(0, .ref 0), (1, .int a1), (2, .int a2), (3, .long q3)] dX10_gap_34 (by decide) rfl ?_
      refine rw_iconst 35 (v := 0) dX10_gap_35 (by decide) ?_
      refine rw_istore 36 [(0, .ref 0), (1, .int a1), (2, .int a2), (3, .long q3), (5, .int 0)] dX10_gap_36 (by decide) rfl ?_
      refine rw_bipush 38 (v := -2) dX10_gap_38 (by decide) ?_
      refine rw_istore 40 [(0, .ref 0), (1, .int a1), (2, .int a2), (3, .long q3), (5, .int 0), (6, .int (-2))] dX10_gap_40 (by decide) rfl ?_
      refine rw_iconst 42 (v := 0) dX10_gap_42 (by decide) ?_
      refine rw_istore 43 [(0, .ref 0), (1, .int a1), (2, .int a2), (3, .long q3), (5, .int 0), (6, .int (-2)), (7, .int 0)] dX10_gap_43 (by decide) rfl ?_
      refine rw_iconst 45 (v := 0) dX10_gap_45 (by decide) ?_
      refine rw_istore 46 [(0, .ref 0), (1, .int a1), (2, .int a2), (3, .long q3), (5, .int 0), (6, .int (-2)), (7, .int 0), (8, .int 0)] dX10_gap_46 (by decide) rfl ?_
      refine wX10_gap_48 a1 a2 q3 μ _ (fun y6 y7 h => ?_) FU 0 (-2) 0 0 h
      refine rw_iload_n 109 dX10_gap_109 0 rfl ?_
      refine rn_if_ne 110 118 dX10_gap_110 (by decide) h (fun _ h => ?_) (fun _ h => ?_)
      · refine rw_iload 118 dX10_gap_118 2 rfl ?_
        exact rn_iret 120 dX10_gap_120 rfl h
      · refine rw_iload 113 dX10_gap_113 1 rfl ?_
        refine rw_goto 115 120 dX10_gap_115 (by decide) ?_
        exact rn_iret 120 dX10_gap_120 rfl h
    · refine rw_iconst 16 (v := -1) dX10_gap_16 (by decide) ?_
      exact rn_iret 17 dX10_gap_17 rfl h
def fX10_room_14   (v1 : Int32) (μ : Mem) (K : Int32 → Option (Int32)) : Nat → Int32 → Int32 → Option (Int32)
  | 0, _, _ => none
  | n + 1, v2, v3 =>
    if v3 < (μ.1 199 0) then
      (fX10_couldGoIn v1 v3 0 μ).bind fun q2 =>
      if q2 = true then
        nm (v2 ||| ((1 : Int32) <<< (v3 &&& 31))) fun x3 =>
        fX10_room_14 v1 μ K n x3 (v3 + 1)
      else
        fX10_room_14 v1 μ K n v2 (v3 + 1)
    else
      K v2
def fX10_room (a1 : Int32) (μ : Mem) : Option (Int32) :=
  (fX10_isGuest a1 μ).bind fun q1 =>
  if q1 = true then
    fX10_room_14 a1 μ (fun y4 =>
        some y4
    ) FU 0 0
  else
    some (-1)
set_option maxRecDepth 100000 in
theorem wX10_room_14   (v1 : Int32) (μ : Mem) (K : Int32 → Option (Int32)) {res : Int32} (hK : ∀ (v2 : Int32), K v2 = some res → RW mX10_room 3 NF NF 47 [(2, .int v2)] [] (μ, Rf0, NF) (QN (some (.int res)) μ Rf0 NF)) : ∀ (n9 : Nat) (v2 : Int32) (v3 : Int32), fX10_room_14 v1 μ K n9 v2 v3 = some res → RW mX10_room 3 NF NF 14 [(0, .ref 0), (1, .int v1), (2, .int v2), (3, .int v3)] [] (μ, Rf0, NF) (QN (some (.int res)) μ Rf0 NF) := by
  intro n9
  induction n9 with
  | zero => intro _ _ h; cases h
  | succ n ih =>
    intro v2 v3 h
    unfold fX10_room_14 at h
    refine rw_iload_n 14 dX10_room_14 3 rfl ?_
    refine rw_aload_n 15 dX10_room_15 0 rfl ?_
    refine rw_getR 16 10 9 kc10 dX10_room_16 ly_0 rln_0 fX10_68 rfl rf_0_9 ?_
    refine rw_getI 19 7 0 kc7 dX10_room_19 ly_199 rln_199 fX10_214 rfl ?_
    refine rn_icmp_ge 22 47 dX10_room_22 (by decide) h (fun _ h => ?_) (fun _ h => ?_)
    · refine rw_pick 47 [2] rfl ?_
      exact hK v2 h
    · refine rw_aload_n 25 dX10_room_25 0 rfl ?_
      refine rw_iload_n 26 dX10_room_26 1 rfl ?_
      refine rw_iload_n 27 dX10_room_27 3 rfl ?_
      refine rw_iconst 28 (v := 0) dX10_room_28 (by decide) ?_
      refine rn_cVpb 29 10 [.int v1, .int v3, .int 0] dX10_room_29 caX10_couldGoIn lX10_165 inX10_couldGoIn slX10_couldGoIn rfl ly_0 ⟨_, rfl, rfl⟩ rln_0 naX10_couldGoIn (Nat.le_of_ble_eq_true rfl) (Nat.le_of_ble_eq_true rfl) (by decide) (fun _ hq => wX10_couldGoIn v1 v3 0 μ hq) h (fun q2 h => ?_)
      refine rn_ifb_eq 32 41 dX10_room_32 (by decide) h (fun _ h => ?_) (fun _ h => ?_)
      · refine rw_iinc 41 [(0, .ref 0), (1, .int v1), (2, .int v2), (3, .int (v3 + 1))] dX10_room_41 3 rfl rfl (by decide) rfl ?_
        refine rw_goto 44 14 dX10_room_44 (by decide) ?_
        exact ih v2 (v3 + 1) h
      · refine rw_iload_n 35 dX10_room_35 2 rfl ?_
        refine rw_iconst 36 (v := 1) dX10_room_36 (by decide) ?_
        refine rw_iload_n 37 dX10_room_37 3 rfl ?_
        refine rw_ishl 38 dX10_room_38 ?_
        refine rw_ior 39 dX10_room_39 ?_
        refine rn_ist_n 40 (fun x3 => [(0, .ref 0), (1, .int v1), (2, .int x3), (3, .int v3)]) dX10_room_40 (by decide) (fun _ => rfl) h (fun x3 h => ?_)
        refine rw_iinc 41 [(0, .ref 0), (1, .int v1), (2, .int x3), (3, .int (v3 + 1))] dX10_room_41 3 rfl rfl (by decide) rfl ?_
        refine rw_goto 44 14 dX10_room_44 (by decide) ?_
        exact ih x3 (v3 + 1) h
set_option maxRecDepth 100000 in
theorem wX10_room (a1 : Int32) (μ : Mem) {res : Int32} (h : fX10_room a1 μ = some res) : Ct mX10_room 3 NF NF [.ref 0, .int a1] (μ, Rf0, NF) (QN (some (.int res)) μ Rf0 NF) := by
  unfold fX10_room at h
  show RW mX10_room 3 NF NF 0 [(0, .ref 0), (1, .int a1)] [] (μ, Rf0, NF) (QN (some (.int res)) μ Rf0 NF)
  refine rw_aload_n 0 dX10_room_0 0 rfl ?_
  refine rw_iload_n 1 dX10_room_1 1 rfl ?_
  refine rn_cVpb 2 10 [.int a1] dX10_room_2 caX10_isGuest lX10_130 inX10_isGuest slX10_isGuest rfl ly_0 ⟨_, rfl, rfl⟩ rln_0 naX10_isGuest (Nat.le_of_ble_eq_true rfl) (Nat.le_of_ble_eq_true rfl) (by decide) (fun _ hq => wX10_isGuest a1 μ hq) h (fun q1 h => ?_)
  refine rn_ifb_ne 5 10 dX10_room_5 (by decide) h (fun _ h => ?_) (fun _ h => ?_)
  · refine rw_iconst 10 (v := 0) dX10_room_10 (by decide) ?_
    refine rw_istore_n 11 [(0, .ref 0), (1, .int a1), (2, .int 0)] dX10_room_11 (by decide) rfl ?_
    refine rw_iconst 12 (v := 0) dX10_room_12 (by decide) ?_
    refine rw_istore_n 13 [(0, .ref 0), (1, .int a1), (2, .int 0), (3, .int 0)] dX10_room_13 (by decide) rfl ?_
    refine wX10_room_14 a1 μ _ (fun y4 h => ?_) FU 0 0 h
    refine rw_iload_n 47 dX10_room_47 0 rfl ?_
    exact rn_iret 48 dX10_room_48 rfl h
  · refine rw_iconst 8 (v := -1) dX10_room_8 (by decide) ?_
    exact rn_iret 9 dX10_room_9 rfl h
def fX10_price_42   (v1 : Int32) (v2 : Int32)  (K : Mem → Option (Int32 × Mem)) : Nat → Int32 → Mem → Option (Int32 × Mem)
  | 0, _, _ => none
  | n + 1, v3, μ =>
    if v3 < v2 then
      (fX1_passWeek 199 13 μ).bind fun q5 =>
      fX10_price_42 v1 v2 K n (v3 + 1) q5
    else
      K μ
def fX10_price (a1 : Int32) (a2 : Int32) (μ : Mem) : Option (Int32 × Mem) :=
  (fX10_isSunday a1 μ).bind fun q1 =>
  if q1 = true then
    (fX5_isSold 9 a1 μ).bind fun q2 =>
    if q2 = true then
      some ((-1), μ)
    else
      (fX10_isWeeks a2 μ).bind fun q3 =>
      if q3 = true then
        (fX5_copyFrom 13 9 μ).bind fun q4 =>
        fX10_price_42 a1 a2 (fun μ6 =>
            (fX1_ofSunday 3 199 13 a1 μ6).bind fun q7 =>
            some (q7.1, q7.2)
        ) FU 0 q4
      else
        some ((-1), μ)
  else
    some ((-1), μ)
set_option maxRecDepth 100000 in
theorem wX10_price_42   (v1 : Int32) (v2 : Int32)  (K : Mem → Option (Int32 × Mem)) {res : Int32 × Mem} (hK : ∀  (μ : Mem), K μ = some res → RW mX10_price 7 NF NF 68 [(0, .ref 0), (1, .int v1)] [] (μ, Rf0, NF) (QN (some (.int res.1)) res.2 Rf0 NF)) : ∀ (n9 : Nat) (v3 : Int32) (μ : Mem), fX10_price_42 v1 v2 K n9 v3 μ = some res → RW mX10_price 7 NF NF 42 [(0, .ref 0), (1, .int v1), (2, .int v2), (3, .int v3)] [] (μ, Rf0, NF) (QN (some (.int res.1)) res.2 Rf0 NF) := by
  intro n9
  induction n9 with
  | zero => intro _ _ h; cases h
  | succ n ih =>
    intro v3 μ h
    unfold fX10_price_42 at h
    refine rw_iload_n 42 dX10_price_42 3 rfl ?_
    refine rw_iload_n 43 dX10_price_43 2 rfl ?_
    refine rn_icmp_ge 44 68 dX10_price_44 (by decide) h (fun _ h => ?_) (fun _ h => ?_)
    · refine rw_pick 68 [0, 1] rfl ?_
      exact hK μ h
    · refine rw_aload_n 47 dX10_price_47 0 rfl ?_
      refine rw_getR 48 10 6 kc10 dX10_price_48 ly_0 rln_0 fX10_47 rfl rf_0_6 ?_
      refine rw_aload_n 51 dX10_price_51 0 rfl ?_
      refine rw_getR 52 10 9 kc10 dX10_price_52 ly_0 rln_0 fX10_68 rfl rf_0_9 ?_
      refine rw_aload_n 55 dX10_price_55 0 rfl ?_
      refine rw_getR 56 10 3 kc10 dX10_price_56 ly_0 rln_0 fX10_30 rfl rf_0_3 ?_
      refine rn_cVmv 59 1 [.ref 199, .ref 13] dX10_price_59 caX1_passWeek lX10_261 inX1_passWeek slX1_passWeek rfl ly_180 ⟨_, rfl, rfl⟩ rln_180 naX1_passWeek (Nat.le_of_ble_eq_true rfl) (Nat.le_of_ble_eq_true rfl) (by decide) (fun _ hq => wX1_passWeek 199 okX7_199 13 okX5_13 μ hq) h (fun q5 h => ?_)
      refine rw_iinc 62 [(0, .ref 0), (1, .int v1), (2, .int v2), (3, .int (v3 + 1))] dX10_price_62 3 rfl rfl (by decide) rfl ?_
      refine rw_goto 65 42 dX10_price_65 (by decide) ?_
      exact ih (v3 + 1) q5 h
set_option maxRecDepth 100000 in
theorem wX10_price (a1 : Int32) (a2 : Int32) (μ : Mem) {res : Int32 × Mem} (h : fX10_price a1 a2 μ = some res) : Ct mX10_price 7 NF NF [.ref 0, .int a1, .int a2] (μ, Rf0, NF) (QN (some (.int res.1)) res.2 Rf0 NF) := by
  unfold fX10_price at h
  show RW mX10_price 7 NF NF 0 [(0, .ref 0), (1, .int a1), (2, .int a2)] [] (μ, Rf0, NF) (QN (some (.int res.1)) res.2 Rf0 NF)
  refine rw_aload_n 0 dX10_price_0 0 rfl ?_
  refine rw_iload_n 1 dX10_price_1 1 rfl ?_
  refine rn_cVpb 2 10 [.int a1] dX10_price_2 caX10_isSunday lX10_107 inX10_isSunday slX10_isSunday rfl ly_0 ⟨_, rfl, rfl⟩ rln_0 naX10_isSunday (Nat.le_of_ble_eq_true rfl) (Nat.le_of_ble_eq_true rfl) (by decide) (fun _ hq => wX10_isSunday a1 μ hq) h (fun q1 h => ?_)
  refine rn_ifb_eq 5 27 dX10_price_5 (by decide) h (fun _ h => ?_) (fun _ h => ?_)
  · refine rw_iconst 27 (v := -1) dX10_price_27 (by decide) ?_
    exact rn_iret2 28 dX10_price_28 rfl h
  · refine rw_aload_n 8 dX10_price_8 0 rfl ?_
    refine rw_getR 9 10 2 kc10 dX10_price_9 ly_0 rln_0 fX10_26 rfl rf_0_2 ?_
    refine rw_iload_n 12 dX10_price_12 1 rfl ?_
    refine rn_cVpb 13 5 [.int a1] dX10_price_13 caX5_isSold lX10_120 inX5_isSold slX5_isSold rfl ly_9 ⟨_, rfl, rfl⟩ rln_9 naX5_isSold (Nat.le_of_ble_eq_true rfl) (Nat.le_of_ble_eq_true rfl) (by decide) (fun _ hq => wX5_isSold 9 okX5_9 a1 μ hq) h (fun q2 h => ?_)
    refine rn_ifb_ne 16 27 dX10_price_16 (by decide) h (fun _ h => ?_) (fun _ h => ?_)
    · refine rw_iconst 27 (v := -1) dX10_price_27 (by decide) ?_
      exact rn_iret2 28 dX10_price_28 rfl h
    · refine rw_aload_n 19 dX10_price_19 0 rfl ?_
      refine rw_iload_n 20 dX10_price_20 2 rfl ?_
      refine rn_cVpb 21 10 [.int a2] dX10_price_21 caX10_isWeeks lX10_182 inX10_isWeeks slX10_isWeeks rfl ly_0 ⟨_, rfl, rfl⟩ rln_0 naX10_isWeeks (Nat.le_of_ble_eq_true rfl) (Nat.le_of_ble_eq_true rfl) (by decide) (fun _ hq => wX10_isWeeks a2 μ hq) h (fun q3 h => ?_)
      refine rn_ifb_ne 24 29 dX10_price_24 (by decide) h (fun _ h => ?_) (fun _ h => ?_)
      · refine rw_aload_n 29 dX10_price_29 0 rfl ?_
        refine rw_getR 30 10 3 kc10 dX10_price_30 ly_0 rln_0 fX10_30 rfl rf_0_3 ?_
        refine rw_aload_n 33 dX10_price_33 0 rfl ?_
        refine rw_getR 34 10 2 kc10 dX10_price_34 ly_0 rln_0 fX10_26 rfl rf_0_2 ?_
        refine rn_cVmv 37 5 [.ref 9] dX10_price_37 caX5_copyFrom lX10_258 inX5_copyFrom slX5_copyFrom rfl ly_13 ⟨_, rfl, rfl⟩ rln_13 naX5_copyFrom (Nat.le_of_ble_eq_true rfl) (Nat.le_of_ble_eq_true rfl) (by decide) (fun _ hq => wX5_copyFrom 13 okX5_13 9 okX5_9 μ hq) h (fun q4 h => ?_)
        refine rw_iconst 40 (v := 0) dX10_price_40 (by decide) ?_
        refine rw_istore_n 41 [(0, .ref 0), (1, .int a1), (2, .int a2), (3, .int 0)] dX10_price_41 (by decide) rfl ?_
        refine wX10_price_42 a1 a2 _ (fun μ6 h => ?_) FU 0 q4 h
        refine rw_aload_n 68 dX10_price_68 0 rfl ?_
        refine rw_getR 69 10 6 kc10 dX10_price_69 ly_0 rln_0 fX10_47 rfl rf_0_6 ?_
        refine rw_iconst 72 (v := 3) dX10_price_72 (by decide) ?_
        refine rw_aload_n 73 dX10_price_73 0 rfl ?_
        refine rw_getR 74 10 9 kc10 dX10_price_74 ly_0 rln_0 fX10_68 rfl rf_0_9 ?_
        refine rw_aload_n 77 dX10_price_77 0 rfl ?_
        refine rw_getR 78 10 3 kc10 dX10_price_78 ly_0 rln_0 fX10_30 rfl rf_0_3 ?_
        refine rw_iload_n 81 dX10_price_81 1 rfl ?_
        refine rn_cVmi 82 1 [.int 3, .ref 199, .ref 13, .int a1] dX10_price_82 caX1_ofSunday lX10_126 inX1_ofSunday slX1_ofSunday rfl ly_180 ⟨_, rfl, rfl⟩ rln_180 naX1_ofSunday (Nat.le_of_ble_eq_true rfl) (Nat.le_of_ble_eq_true rfl) (by decide) (fun _ hq => wX1_ofSunday 3 199 okX7_199 13 okX5_13 a1 μ6 hq) h (fun q7 h => ?_)
        exact rn_iret2 85 dX10_price_85 rfl h
      · refine rw_iconst 27 (v := -1) dX10_price_27 (by decide) ?_
        exact rn_iret2 28 dX10_price_28 rfl h
def fX10_best_73   (v1 : Int32) (v2 : Int32) (v3 : Int32)  (K : Int32 → Int32 → Mem → Option (Int32 × Mem)) : Nat → Int32 → Int32 → Int32 → Mem → Option (Int32 × Mem)
  | 0, _, _, _, _ => none
  | n + 1, v4, v5, v6, μ =>
    if v2 < v6 then
      K v4 v5 μ
    else
      (fX1_passWeek 199 13 μ).bind fun q7 =>
      (fX1_ofSunday 3 199 13 v1 q7).bind fun q8 =>
      if v5 < q8.1 then
        fX10_best_73 v1 v2 v3 K n v6 q8.1 (v6 + 1) q8.2
      else
        fX10_best_73 v1 v2 v3 K n v4 v5 (v6 + 1) q8.2
def fX10_best (a1 : Int32) (a2 : Int32) (a3 : Int32) (μ : Mem) : Option (Int32 × Mem) :=
  (fX10_isSunday a1 μ).bind fun q1 =>
  if q1 = true then
    (fX5_isSold 9 a1 μ).bind fun q2 =>
    if q2 = true then
      some ((-1), μ)
    else
      (fX10_isWeeks a2 μ).bind fun q3 =>
      if q3 = true then
        (fX10_isOneOfTwo a3 μ).bind fun q4 =>
        if q4 = true then
          (fX5_copyFrom 13 9 μ).bind fun q5 =>
          (fX1_ofSunday 3 199 13 a1 q5).bind fun q6 =>
          fX10_best_73 a1 a2 a3 (fun y9 y10 μ11 =>
              if a3 = 0 then
                some (y9, μ11)
              else
                some (y10, μ11)
          ) FU 0 q6.1 1 q6.2
        else
          some ((-1), μ)
      else
        some ((-1), μ)
  else
    some ((-1), μ)
set_option maxRecDepth 100000 in
theorem wX10_best_73   (v1 : Int32) (v2 : Int32) (v3 : Int32)  (K : Int32 → Int32 → Mem → Option (Int32 × Mem)) {res : Int32 × Mem} (hK : ∀ (v4 : Int32) (v5 : Int32) (μ : Mem), K v4 v5 μ = some res → RW mX10_best 7 NF NF 134 [(3, .int v3), (4, .int v4), (5, .int v5)] [] (μ, Rf0, NF) (QN (some (.int res.1)) res.2 Rf0 NF)) : ∀ (n9 : Nat) (v4 : Int32) (v5 : Int32) (v6 : Int32) (μ : Mem), fX10_best_73 v1 v2 v3 K n9 v4 v5 v6 μ = some res → RW mX10_best 7 NF NF 73 [(0, .ref 0), (1, .int v1), (2, .int v2), (3, .int v3), (4, .int v4), (5, .int v5), (6, .int v6)] [] (μ, Rf0, NF) (QN (some (.int res.1)) res.2 Rf0 NF) := by
  intro n9
  induction n9 with
  | zero => intro _ _ _ _ h; cases h
  | succ n ih =>
    intro v4 v5 v6 μ h
    unfold fX10_best_73 at h
    refine rw_iload 73 dX10_best_73 6 rfl ?_
    refine rw_iload_n 75 dX10_best_75 2 rfl ?_
    refine rn_icmp_gt 76 134 dX10_best_76 (by decide) h (fun _ h => ?_) (fun _ h => ?_)
    · refine rw_pick 134 [3, 4, 5] rfl ?_
      exact hK v4 v5 μ h
    · refine rw_aload_n 79 dX10_best_79 0 rfl ?_
      refine rw_getR 80 10 6 kc10 dX10_best_80 ly_0 rln_0 fX10_47 rfl rf_0_6 ?_
      refine rw_aload_n 83 dX10_best_83 0 rfl ?_
      refine rw_getR 84 10 9 kc10 dX10_best_84 ly_0 rln_0 fX10_68 rfl rf_0_9 ?_
      refine rw_aload_n 87 dX10_best_87 0 rfl ?_
      refine rw_getR 88 10 3 kc10 dX10_best_88 ly_0 rln_0 fX10_30 rfl rf_0_3 ?_
      refine rn_cVmv 91 1 [.ref 199, .ref 13] dX10_best_91 caX1_passWeek lX10_261 inX1_passWeek slX1_passWeek rfl ly_180 ⟨_, rfl, rfl⟩ rln_180 naX1_passWeek (Nat.le_of_ble_eq_true rfl) (Nat.le_of_ble_eq_true rfl) (by decide) (fun _ hq => wX1_passWeek 199 okX7_199 13 okX5_13 μ hq) h (fun q7 h => ?_)
      refine rw_aload_n 94 dX10_best_94 0 rfl ?_
      refine rw_getR 95 10 6 kc10 dX10_best_95 ly_0 rln_0 fX10_47 rfl rf_0_6 ?_
      refine rw_iconst 98 (v := 3) dX10_best_98 (by decide) ?_
      refine rw_aload_n 99 dX10_best_99 0 rfl ?_
      refine rw_getR 100 10 9 kc10 dX10_best_100 ly_0 rln_0 fX10_68 rfl rf_0_9 ?_
      refine rw_aload_n 103 dX10_best_103 0 rfl ?_
      refine rw_getR 104 10 3 kc10 dX10_best_104 ly_0 rln_0 fX10_30 rfl rf_0_3 ?_
      refine rw_iload_n 107 dX10_best_107 1 rfl ?_
      refine rn_cVmi 108 1 [.int 3, .ref 199, .ref 13, .int v1] dX10_best_108 caX1_ofSunday lX10_126 inX1_ofSunday slX1_ofSunday rfl ly_180 ⟨_, rfl, rfl⟩ rln_180 naX1_ofSunday (Nat.le_of_ble_eq_true rfl) (Nat.le_of_ble_eq_true rfl) (by decide) (fun _ hq => wX1_ofSunday 3 199 okX7_199 13 okX5_13 v1 q7 hq) h (fun q8 h => ?_)
      refine rw_istore 111 [(0, .ref 0), (1, .int v1), (2, .int v2), (3, .int v3), (4, .int v4), (5, .int v5), (6, .int v6), (7, .int q8.1)] dX10_best_111 (by decide) rfl ?_
      refine rw_iload 113 dX10_best_113 7 rfl ?_
      refine rw_iload 115 dX10_best_115 5 rfl ?_
      refine rn_icmp_le 117 128 dX10_best_117 (by decide) h (fun _ h => ?_) (fun _ h => ?_)
      · refine rw_iinc 128 [(0, .ref 0), (1, .int v1), (2, .int v2), (3, .int v3), (4, .int v4), (5, .int v5), (6, .int (v6 + 1)), (7, .int q8.1)] dX10_best_128 6 rfl rfl (by decide) rfl ?_
        refine rw_goto 131 73 dX10_best_131 (by decide) ?_
        refine rw_pick 73 [0, 1, 2, 3, 4, 5, 6] rfl ?_
        exact ih v4 v5 (v6 + 1) q8.2 h
      · refine rw_iload 120 dX10_best_120 7 rfl ?_
        refine rw_istore 122 [(0, .ref 0), (1, .int v1), (2, .int v2), (3, .int v3), (4, .int v4), (5, .int q8.1), (6, .int v6), (7, .int q8.1)] dX10_best_122 (by decide) rfl ?_
        refine rw_iload 124 dX10_best_124 6 rfl ?_
        refine rw_istore 126 [(0, .ref 0), (1, .int v1), (2, .int v2), (3, .int v3), (4, .int v6), (5, .int q8.1), (6, .int v6), (7, .int q8.1)] dX10_best_126 (by decide) rfl ?_
        refine rw_iinc 128 [(0, .ref 0), (1, .int v1), (2, .int v2), (3, .int v3), (4, .int v6), (5, .int q8.1), (6, .int (v6 + 1)), (7, .int q8.1)] dX10_best_128 6 rfl rfl (by decide) rfl ?_
        refine rw_goto 131 73 dX10_best_131 (by decide) ?_
        refine rw_pick 73 [0, 1, 2, 3, 4, 5, 6] rfl ?_
        exact ih v6 q8.1 (v6 + 1) q8.2 h
set_option maxRecDepth 100000 in
theorem wX10_best (a1 : Int32) (a2 : Int32) (a3 : Int32) (μ : Mem) {res : Int32 × Mem} (h : fX10_best a1 a2 a3 μ = some res) : Ct mX10_best 7 NF NF [.ref 0, .int a1, .int a2, .int a3] (μ, Rf0, NF) (QN (some (.int res.1)) res.2 Rf0 NF) := by
  unfold fX10_best at h
  show RW mX10_best 7 NF NF 0 [(0, .ref 0), (1, .int a1), (2, .int a2), (3, .int a3)] [] (μ, Rf0, NF) (QN (some (.int res.1)) res.2 Rf0 NF)
  refine rw_aload_n 0 dX10_best_0 0 rfl ?_
  refine rw_iload_n 1 dX10_best_1 1 rfl ?_
  refine rn_cVpb 2 10 [.int a1] dX10_best_2 caX10_isSunday lX10_107 inX10_isSunday slX10_isSunday rfl ly_0 ⟨_, rfl, rfl⟩ rln_0 naX10_isSunday (Nat.le_of_ble_eq_true rfl) (Nat.le_of_ble_eq_true rfl) (by decide) (fun _ hq => wX10_isSunday a1 μ hq) h (fun q1 h => ?_)
  refine rn_ifb_eq 5 35 dX10_best_5 (by decide) h (fun _ h => ?_) (fun _ h => ?_)
  · refine rw_iconst 35 (v := -1) dX10_best_35 (by decide) ?_
    exact rn_iret2 36 dX10_best_36 rfl h
  · refine rw_aload_n 8 dX10_best_8 0 rfl ?_
    refine rw_getR 9 10 2 kc10 dX10_best_9 ly_0 rln_0 fX10_26 rfl rf_0_2 ?_
    refine rw_iload_n 12 dX10_best_12 1 rfl ?_
    refine rn_cVpb 13 5 [.int a1] dX10_best_13 caX5_isSold lX10_120 inX5_isSold slX5_isSold rfl ly_9 ⟨_, rfl, rfl⟩ rln_9 naX5_isSold (Nat.le_of_ble_eq_true rfl) (Nat.le_of_ble_eq_true rfl) (by decide) (fun _ hq => wX5_isSold 9 okX5_9 a1 μ hq) h (fun q2 h => ?_)
    refine rn_ifb_ne 16 35 dX10_best_16 (by decide) h (fun _ h => ?_) (fun _ h => ?_)
    · refine rw_iconst 35 (v := -1) dX10_best_35 (by decide) ?_
      exact rn_iret2 36 dX10_best_36 rfl h
    · refine rw_aload_n 19 dX10_best_19 0 rfl ?_
      refine rw_iload_n 20 dX10_best_20 2 rfl ?_
      refine rn_cVpb 21 10 [.int a2] dX10_best_21 caX10_isWeeks lX10_182 inX10_isWeeks slX10_isWeeks rfl ly_0 ⟨_, rfl, rfl⟩ rln_0 naX10_isWeeks (Nat.le_of_ble_eq_true rfl) (Nat.le_of_ble_eq_true rfl) (by decide) (fun _ hq => wX10_isWeeks a2 μ hq) h (fun q3 h => ?_)
      refine rn_ifb_eq 24 35 dX10_best_24 (by decide) h (fun _ h => ?_) (fun _ h => ?_)
      · refine rw_iconst 35 (v := -1) dX10_best_35 (by decide) ?_
        exact rn_iret2 36 dX10_best_36 rfl h
      · refine rw_aload_n 27 dX10_best_27 0 rfl ?_
        refine rw_iload_n 28 dX10_best_28 3 rfl ?_
        refine rn_cVpb 29 10 [.int a3] dX10_best_29 caX10_isOneOfTwo lX10_199 inX10_isOneOfTwo slX10_isOneOfTwo rfl ly_0 ⟨_, rfl, rfl⟩ rln_0 naX10_isOneOfTwo (Nat.le_of_ble_eq_true rfl) (Nat.le_of_ble_eq_true rfl) (by decide) (fun _ hq => wX10_isOneOfTwo a3 μ hq) h (fun q4 h => ?_)
        refine rn_ifb_ne 32 37 dX10_best_32 (by decide) h (fun _ h => ?_) (fun _ h => ?_)
        · refine rw_aload_n 37 dX10_best_37 0 rfl ?_
          refine rw_getR 38 10 3 kc10 dX10_best_38 ly_0 rln_0 fX10_30 rfl rf_0_3 ?_
          refine rw_aload_n 41 dX10_best_41 0 rfl ?_
          refine rw_getR 42 10 2 kc10 dX10_best_42 ly_0 rln_0 fX10_26 rfl rf_0_2 ?_
          refine rn_cVmv 45 5 [.ref 9] dX10_best_45 caX5_copyFrom lX10_258 inX5_copyFrom slX5_copyFrom rfl ly_13 ⟨_, rfl, rfl⟩ rln_13 naX5_copyFrom (Nat.le_of_ble_eq_true rfl) (Nat.le_of_ble_eq_true rfl) (by decide) (fun _ hq => wX5_copyFrom 13 okX5_13 9 okX5_9 μ hq) h (fun q5 h => ?_)
          refine rw_iconst 48 (v := 0) dX10_best_48 (by decide) ?_
          refine rw_istore 49 [(0, .ref 0), (1, .int a1), (2, .int a2), (3, .int a3), (4, .int 0)] dX10_best_49 (by decide) rfl ?_
          refine rw_aload_n 51 dX10_best_51 0 rfl ?_
          refine rw_getR 52 10 6 kc10 dX10_best_52 ly_0 rln_0 fX10_47 rfl rf_0_6 ?_
          refine rw_iconst 55 (v := 3) dX10_best_55 (by decide) ?_
          refine rw_aload_n 56 dX10_best_56 0 rfl ?_
          refine rw_getR 57 10 9 kc10 dX10_best_57 ly_0 rln_0 fX10_68 rfl rf_0_9 ?_
          refine rw_aload_n 60 dX10_best_60 0 rfl ?_
          refine rw_getR 61 10 3 kc10 dX10_best_61 ly_0 rln_0 fX10_30 rfl rf_0_3 ?_
          refine rw_iload_n 64 dX10_best_64 1 rfl ?_
          refine rn_cVmi 65 1 [.int 3, .ref 199, .ref 13, .int a1] dX10_best_65 caX1_ofSunday lX10_126 inX1_ofSunday slX1_ofSunday rfl ly_180 ⟨_, rfl, rfl⟩ rln_180 naX1_ofSunday (Nat.le_of_ble_eq_true rfl) (Nat.le_of_ble_eq_true rfl) (by decide) (fun _ hq => wX1_ofSunday 3 199 okX7_199 13 okX5_13 a1 q5 hq) h (fun q6 h => ?_)
          refine rw_istore 68 [(0, .ref 0), (1, .int a1), (2, .int a2), (3, .int a3), (4, .int 0), (5, .int q6.1)] dX10_best_68 (by decide) rfl ?_
          refine rw_iconst 70 (v := 1) dX10_best_70 (by decide) ?_
          refine rw_istore 71 [(0, .ref 0), (1, .int a1), (2, .int a2), (3, .int a3), (4, .int 0), (5, .int q6.1), (6, .int 1)] dX10_best_71 (by decide) rfl ?_
          refine wX10_best_73 a1 a2 a3 _ (fun y9 y10 μ11 h => ?_) FU 0 q6.1 1 q6.2 h
          refine rw_iload_n 134 dX10_best_134 0 rfl ?_
          refine rn_if_ne 135 143 dX10_best_135 (by decide) h (fun _ h => ?_) (fun _ h => ?_)
          · refine rw_iload 143 dX10_best_143 2 rfl ?_
            exact rn_iret2 145 dX10_best_145 rfl h
          · refine rw_iload 138 dX10_best_138 1 rfl ?_
            refine rw_goto 140 145 dX10_best_140 (by decide) ?_
            exact rn_iret2 145 dX10_best_145 rfl h
        · refine rw_iconst 35 (v := -1) dX10_best_35 (by decide) ?_
          exact rn_iret2 36 dX10_best_36 rfl h
def fX10_weary_23   (v1 : Int32)  (K : Mem → Option (Int32 × Mem)) : Nat → Int32 → Mem → Option (Int32 × Mem)
  | 0, _, _ => none
  | n + 1, v2, μ =>
    if 100 < v2 then
      K μ
    else
      if inb v1 7 then
      if (μ.1 16 v1.toNatClampNeg) < (μ.1 199 8) then
        (fX1_passWeek 199 13 μ).bind fun q3 =>
        fX10_weary_23 v1 K n (v2 + 1) q3
      else
        some (v2, μ)
      else none
def fX10_weary (a1 : Int32) (μ : Mem) : Option (Int32 × Mem) :=
  (fX10_isGuest a1 μ).bind fun q1 =>
  if q1 = true then
    (fX5_copyFrom 13 9 μ).bind fun q2 =>
    fX10_weary_23 a1 (fun μ4 =>
        some ((-2), μ4)
    ) FU 0 q2
  else
    some ((-1), μ)
set_option maxRecDepth 100000 in
theorem wX10_weary_23   (v1 : Int32)  (K : Mem → Option (Int32 × Mem)) {res : Int32 × Mem} (hK : ∀  (μ : Mem), K μ = some res → RW mX10_weary 7 NF NF 71 [] [] (μ, Rf0, NF) (QN (some (.int res.1)) res.2 Rf0 NF)) : ∀ (n9 : Nat) (v2 : Int32) (μ : Mem), fX10_weary_23 v1 K n9 v2 μ = some res → RW mX10_weary 7 NF NF 23 [(0, .ref 0), (1, .int v1), (2, .int v2)] [] (μ, Rf0, NF) (QN (some (.int res.1)) res.2 Rf0 NF) := by
  intro n9
  induction n9 with
  | zero => intro _ _ h; cases h
  | succ n ih =>
    intro v2 μ h
    unfold fX10_weary_23 at h
    refine rw_iload_n 23 dX10_weary_23 2 rfl ?_
    refine rw_bipush 24 (v := 100) dX10_weary_24 (by decide) ?_
    refine rn_icmp_gt 26 71 dX10_weary_26 (by decide) h (fun _ h => ?_) (fun _ h => ?_)
    · refine rw_pick 71 [] rfl ?_
      exact hK μ h
    · refine rw_aload_n 29 dX10_weary_29 0 rfl ?_
      refine rw_getR 30 10 3 kc10 dX10_weary_30 ly_0 rln_0 fX10_30 rfl rf_0_3 ?_
      refine rw_getR 33 5 6 kc5 dX10_weary_33 ly_13 rln_13 fX10_146 rfl rf_13_6 ?_
      refine rw_iload_n 36 dX10_weary_36 1 rfl ?_
      refine rn_iald 37 dX10_weary_37 ly_16 rln_16 h (fun h => ?_)
      refine rw_aload_n 38 dX10_weary_38 0 rfl ?_
      refine rw_getR 39 10 9 kc10 dX10_weary_39 ly_0 rln_0 fX10_68 rfl rf_0_9 ?_
      refine rw_getI 42 7 8 kc7 dX10_weary_42 ly_199 rln_199 fX10_273 rfl ?_
      refine rn_icmp_lt 45 50 dX10_weary_45 (by decide) h (fun _ h => ?_) (fun _ h => ?_)
      · refine rw_aload_n 50 dX10_weary_50 0 rfl ?_
        refine rw_getR 51 10 6 kc10 dX10_weary_51 ly_0 rln_0 fX10_47 rfl rf_0_6 ?_
        refine rw_aload_n 54 dX10_weary_54 0 rfl ?_
        refine rw_getR 55 10 9 kc10 dX10_weary_55 ly_0 rln_0 fX10_68 rfl rf_0_9 ?_
        refine rw_aload_n 58 dX10_weary_58 0 rfl ?_
        refine rw_getR 59 10 3 kc10 dX10_weary_59 ly_0 rln_0 fX10_30 rfl rf_0_3 ?_
        refine rn_cVmv 62 1 [.ref 199, .ref 13] dX10_weary_62 caX1_passWeek lX10_261 inX1_passWeek slX1_passWeek rfl ly_180 ⟨_, rfl, rfl⟩ rln_180 naX1_passWeek (Nat.le_of_ble_eq_true rfl) (Nat.le_of_ble_eq_true rfl) (by decide) (fun _ hq => wX1_passWeek 199 okX7_199 13 okX5_13 μ hq) h (fun q3 h => ?_)
        refine rw_iinc 65 [(0, .ref 0), (1, .int v1), (2, .int (v2 + 1))] dX10_weary_65 2 rfl rfl (by decide) rfl ?_
        refine rw_goto 68 23 dX10_weary_68 (by decide) ?_
        exact ih (v2 + 1) q3 h
      · refine rw_iload_n 48 dX10_weary_48 2 rfl ?_
        exact rn_iret2 49 dX10_weary_49 rfl h
set_option maxRecDepth 100000 in
theorem wX10_weary (a1 : Int32) (μ : Mem) {res : Int32 × Mem} (h : fX10_weary a1 μ = some res) : Ct mX10_weary 7 NF NF [.ref 0, .int a1] (μ, Rf0, NF) (QN (some (.int res.1)) res.2 Rf0 NF) := by
  unfold fX10_weary at h
  show RW mX10_weary 7 NF NF 0 [(0, .ref 0), (1, .int a1)] [] (μ, Rf0, NF) (QN (some (.int res.1)) res.2 Rf0 NF)
  refine rw_aload_n 0 dX10_weary_0 0 rfl ?_
  refine rw_iload_n 1 dX10_weary_1 1 rfl ?_
  refine rn_cVpb 2 10 [.int a1] dX10_weary_2 caX10_isGuest lX10_130 inX10_isGuest slX10_isGuest rfl ly_0 ⟨_, rfl, rfl⟩ rln_0 naX10_isGuest (Nat.le_of_ble_eq_true rfl) (Nat.le_of_ble_eq_true rfl) (by decide) (fun _ hq => wX10_isGuest a1 μ hq) h (fun q1 h => ?_)
  refine rn_ifb_ne 5 10 dX10_weary_5 (by decide) h (fun _ h => ?_) (fun _ h => ?_)
  · refine rw_aload_n 10 dX10_weary_10 0 rfl ?_
    refine rw_getR 11 10 3 kc10 dX10_weary_11 ly_0 rln_0 fX10_30 rfl rf_0_3 ?_
    refine rw_aload_n 14 dX10_weary_14 0 rfl ?_
    refine rw_getR 15 10 2 kc10 dX10_weary_15 ly_0 rln_0 fX10_26 rfl rf_0_2 ?_
    refine rn_cVmv 18 5 [.ref 9] dX10_weary_18 caX5_copyFrom lX10_258 inX5_copyFrom slX5_copyFrom rfl ly_13 ⟨_, rfl, rfl⟩ rln_13 naX5_copyFrom (Nat.le_of_ble_eq_true rfl) (Nat.le_of_ble_eq_true rfl) (by decide) (fun _ hq => wX5_copyFrom 13 okX5_13 9 okX5_9 μ hq) h (fun q2 h => ?_)
    refine rw_iconst 21 (v := 0) dX10_weary_21 (by decide) ?_
    refine rw_istore_n 22 [(0, .ref 0), (1, .int a1), (2, .int 0)] dX10_weary_22 (by decide) rfl ?_
    refine wX10_weary_23 a1 _ (fun μ4 h => ?_) FU 0 q2 h
    refine rw_bipush 71 (v := -2) dX10_weary_71 (by decide) ?_
    exact rn_iret2 73 dX10_weary_73 rfl h
  · refine rw_iconst 8 (v := -1) dX10_weary_8 (by decide) ?_
    exact rn_iret2 9 dX10_weary_9 rfl h
def fX10_earned_23   (v1 : Int32)  (K : Mem → Option (Int32 × Mem)) : Nat → Int32 → Mem → Option (Int32 × Mem)
  | 0, _, _ => none
  | n + 1, v2, μ =>
    if v2 < v1 then
      (fX1_passWeek 199 13 μ).bind fun q3 =>
      fX10_earned_23 v1 K n (v2 + 1) q3
    else
      K μ
def fX10_earned (a1 : Int32) (μ : Mem) : Option (Int32 × Mem) :=
  (fX10_isWeeks a1 μ).bind fun q1 =>
  if q1 = true then
    (fX5_copyFrom 13 9 μ).bind fun q2 =>
    fX10_earned_23 a1 (fun μ4 =>
        some (((μ4.1 13 1) - (μ4.1 9 1)), μ4)
    ) FU 0 q2
  else
    some ((-1), μ)
set_option maxRecDepth 100000 in
theorem wX10_earned_23   (v1 : Int32)  (K : Mem → Option (Int32 × Mem)) {res : Int32 × Mem} (hK : ∀  (μ : Mem), K μ = some res → RW mX10_earned 7 NF NF 49 [(0, .ref 0)] [] (μ, Rf0, NF) (QN (some (.int res.1)) res.2 Rf0 NF)) : ∀ (n9 : Nat) (v2 : Int32) (μ : Mem), fX10_earned_23 v1 K n9 v2 μ = some res → RW mX10_earned 7 NF NF 23 [(0, .ref 0), (1, .int v1), (2, .int v2)] [] (μ, Rf0, NF) (QN (some (.int res.1)) res.2 Rf0 NF) := by
  intro n9
  induction n9 with
  | zero => intro _ _ h; cases h
  | succ n ih =>
    intro v2 μ h
    unfold fX10_earned_23 at h
    refine rw_iload_n 23 dX10_earned_23 2 rfl ?_
    refine rw_iload_n 24 dX10_earned_24 1 rfl ?_
    refine rn_icmp_ge 25 49 dX10_earned_25 (by decide) h (fun _ h => ?_) (fun _ h => ?_)
    · refine rw_pick 49 [0] rfl ?_
      exact hK μ h
    · refine rw_aload_n 28 dX10_earned_28 0 rfl ?_
      refine rw_getR 29 10 6 kc10 dX10_earned_29 ly_0 rln_0 fX10_47 rfl rf_0_6 ?_
      refine rw_aload_n 32 dX10_earned_32 0 rfl ?_
      refine rw_getR 33 10 9 kc10 dX10_earned_33 ly_0 rln_0 fX10_68 rfl rf_0_9 ?_
      refine rw_aload_n 36 dX10_earned_36 0 rfl ?_
      refine rw_getR 37 10 3 kc10 dX10_earned_37 ly_0 rln_0 fX10_30 rfl rf_0_3 ?_
      refine rn_cVmv 40 1 [.ref 199, .ref 13] dX10_earned_40 caX1_passWeek lX10_261 inX1_passWeek slX1_passWeek rfl ly_180 ⟨_, rfl, rfl⟩ rln_180 naX1_passWeek (Nat.le_of_ble_eq_true rfl) (Nat.le_of_ble_eq_true rfl) (by decide) (fun _ hq => wX1_passWeek 199 okX7_199 13 okX5_13 μ hq) h (fun q3 h => ?_)
      refine rw_iinc 43 [(0, .ref 0), (1, .int v1), (2, .int (v2 + 1))] dX10_earned_43 2 rfl rfl (by decide) rfl ?_
      refine rw_goto 46 23 dX10_earned_46 (by decide) ?_
      exact ih (v2 + 1) q3 h
set_option maxRecDepth 100000 in
theorem wX10_earned (a1 : Int32) (μ : Mem) {res : Int32 × Mem} (h : fX10_earned a1 μ = some res) : Ct mX10_earned 7 NF NF [.ref 0, .int a1] (μ, Rf0, NF) (QN (some (.int res.1)) res.2 Rf0 NF) := by
  unfold fX10_earned at h
  show RW mX10_earned 7 NF NF 0 [(0, .ref 0), (1, .int a1)] [] (μ, Rf0, NF) (QN (some (.int res.1)) res.2 Rf0 NF)
  refine rw_aload_n 0 dX10_earned_0 0 rfl ?_
  refine rw_iload_n 1 dX10_earned_1 1 rfl ?_
  refine rn_cVpb 2 10 [.int a1] dX10_earned_2 caX10_isWeeks lX10_182 inX10_isWeeks slX10_isWeeks rfl ly_0 ⟨_, rfl, rfl⟩ rln_0 naX10_isWeeks (Nat.le_of_ble_eq_true rfl) (Nat.le_of_ble_eq_true rfl) (by decide) (fun _ hq => wX10_isWeeks a1 μ hq) h (fun q1 h => ?_)
  refine rn_ifb_ne 5 10 dX10_earned_5 (by decide) h (fun _ h => ?_) (fun _ h => ?_)
  · refine rw_aload_n 10 dX10_earned_10 0 rfl ?_
    refine rw_getR 11 10 3 kc10 dX10_earned_11 ly_0 rln_0 fX10_30 rfl rf_0_3 ?_
    refine rw_aload_n 14 dX10_earned_14 0 rfl ?_
    refine rw_getR 15 10 2 kc10 dX10_earned_15 ly_0 rln_0 fX10_26 rfl rf_0_2 ?_
    refine rn_cVmv 18 5 [.ref 9] dX10_earned_18 caX5_copyFrom lX10_258 inX5_copyFrom slX5_copyFrom rfl ly_13 ⟨_, rfl, rfl⟩ rln_13 naX5_copyFrom (Nat.le_of_ble_eq_true rfl) (Nat.le_of_ble_eq_true rfl) (by decide) (fun _ hq => wX5_copyFrom 13 okX5_13 9 okX5_9 μ hq) h (fun q2 h => ?_)
    refine rw_iconst 21 (v := 0) dX10_earned_21 (by decide) ?_
    refine rw_istore_n 22 [(0, .ref 0), (1, .int a1), (2, .int 0)] dX10_earned_22 (by decide) rfl ?_
    refine wX10_earned_23 a1 _ (fun μ4 h => ?_) FU 0 q2 h
    refine rw_aload_n 49 dX10_earned_49 0 rfl ?_
    refine rw_getR 50 10 3 kc10 dX10_earned_50 ly_0 rln_0 fX10_30 rfl rf_0_3 ?_
    refine rw_getI 53 5 1 kc5 dX10_earned_53 ly_13 rln_13 fX10_179 rfl ?_
    refine rw_aload_n 56 dX10_earned_56 0 rfl ?_
    refine rw_getR 57 10 2 kc10 dX10_earned_57 ly_0 rln_0 fX10_26 rfl rf_0_2 ?_
    refine rw_getI 60 5 1 kc5 dX10_earned_60 ly_9 rln_9 fX10_179 rfl ?_
    refine rw_isub 63 dX10_earned_63 ?_
    exact rn_iret2 64 dX10_earned_64 rfl h
  · refine rw_iconst 8 (v := -1) dX10_earned_8 (by decide) ?_
    exact rn_iret2 9 dX10_earned_9 rfl h
def fX10_rivals (a1 : Int32) (μ : Mem) : Option (Int32) :=
  (fX10_isGuest a1 μ).bind fun q1 =>
  if q1 = true then
    if inb a1 7 then
    some (μ.1 209 a1.toNatClampNeg)
    else none
  else
    some (-1)
set_option maxRecDepth 100000 in
theorem wX10_rivals (a1 : Int32) (μ : Mem) {res : Int32} (h : fX10_rivals a1 μ = some res) : Ct mX10_rivals 2 NF NF [.ref 0, .int a1] (μ, Rf0, NF) (QN (some (.int res)) μ Rf0 NF) := by
  unfold fX10_rivals at h
  show RW mX10_rivals 2 NF NF 0 [(0, .ref 0), (1, .int a1)] [] (μ, Rf0, NF) (QN (some (.int res)) μ Rf0 NF)
  refine rw_aload_n 0 dX10_rivals_0 0 rfl ?_
  refine rw_iload_n 1 dX10_rivals_1 1 rfl ?_
  refine rn_cVpb 2 10 [.int a1] dX10_rivals_2 caX10_isGuest lX10_130 inX10_isGuest slX10_isGuest rfl ly_0 ⟨_, rfl, rfl⟩ rln_0 naX10_isGuest (Nat.le_of_ble_eq_true rfl) (Nat.le_of_ble_eq_true rfl) (by decide) (fun _ hq => wX10_isGuest a1 μ hq) h (fun q1 h => ?_)
  refine rn_ifb_eq 5 20 dX10_rivals_5 (by decide) h (fun _ h => ?_) (fun _ h => ?_)
  · refine rw_iconst 20 (v := -1) dX10_rivals_20 (by decide) ?_
    exact rn_iret 21 dX10_rivals_21 rfl h
  · refine rw_aload_n 8 dX10_rivals_8 0 rfl ?_
    refine rw_getR 9 10 9 kc10 dX10_rivals_9 ly_0 rln_0 fX10_68 rfl rf_0_9 ?_
    refine rw_getR 12 7 11 kc7 dX10_rivals_12 ly_199 rln_199 fX10_276 rfl rf_199_11 ?_
    refine rw_iload_n 15 dX10_rivals_15 1 rfl ?_
    refine rn_iald 16 dX10_rivals_16 ly_209 rln_209 h (fun h => ?_)
    refine rw_goto 17 21 dX10_rivals_17 (by decide) ?_
    exact rn_iret 21 dX10_rivals_21 rfl h
def fX10_then (a1 : Int32) (a2 : Int32) (a3 : Int32) (μ : Mem) : Option (Int32 × Mem) :=
  (fX10_isGuest a1 μ).bind fun q1 =>
  if q1 = true then
    (fX10_isWeeks a2 μ).bind fun q2 =>
    if q2 = true then
      if a3 < 0 then
        some ((-1), μ)
      else
        if 2 < a3 then
          some ((-1), μ)
        else
          (fX5_copyFrom 13 9 μ).bind fun q3 =>
          (fX1_passDeadlyWeeks 199 13 a2 (q3.1 199 9) q3).bind fun q4 =>
          if a3 = 0 then
            (fX5_whereIs 13 a1 q4).bind fun q6 =>
            some (q6, q4)
          else
            if a3 = 1 then
              if inb a1 7 then
              some ((q4.1 16 a1.toNatClampNeg), q4)
              else none
            else
              (fX5_isDead 13 a1 q4).bind fun q5 =>
              if q5 = true then
                some (1, q4)
              else
                some (0, q4)
    else
      some ((-1), μ)
  else
    some ((-1), μ)
set_option maxRecDepth 100000 in
theorem wX10_then (a1 : Int32) (a2 : Int32) (a3 : Int32) (μ : Mem) {res : Int32 × Mem} (h : fX10_then a1 a2 a3 μ = some res) : Ct mX10_then 7 NF NF [.ref 0, .int a1, .int a2, .int a3] (μ, Rf0, NF) (QN (some (.int res.1)) res.2 Rf0 NF) := by
  unfold fX10_then at h
  show RW mX10_then 7 NF NF 0 [(0, .ref 0), (1, .int a1), (2, .int a2), (3, .int a3)] [] (μ, Rf0, NF) (QN (some (.int res.1)) res.2 Rf0 NF)
  refine rw_aload_n 0 dX10_then_0 0 rfl ?_
  refine rw_iload_n 1 dX10_then_1 1 rfl ?_
  refine rn_cVpb 2 10 [.int a1] dX10_then_2 caX10_isGuest lX10_130 inX10_isGuest slX10_isGuest rfl ly_0 ⟨_, rfl, rfl⟩ rln_0 naX10_isGuest (Nat.le_of_ble_eq_true rfl) (Nat.le_of_ble_eq_true rfl) (by decide) (fun _ hq => wX10_isGuest a1 μ hq) h (fun q1 h => ?_)
  refine rn_ifb_eq 5 25 dX10_then_5 (by decide) h (fun _ h => ?_) (fun _ h => ?_)
  · refine rw_iconst 25 (v := -1) dX10_then_25 (by decide) ?_
    exact rn_iret2 26 dX10_then_26 rfl h
  · refine rw_aload_n 8 dX10_then_8 0 rfl ?_
    refine rw_iload_n 9 dX10_then_9 2 rfl ?_
    refine rn_cVpb 10 10 [.int a2] dX10_then_10 caX10_isWeeks lX10_182 inX10_isWeeks slX10_isWeeks rfl ly_0 ⟨_, rfl, rfl⟩ rln_0 naX10_isWeeks (Nat.le_of_ble_eq_true rfl) (Nat.le_of_ble_eq_true rfl) (by decide) (fun _ hq => wX10_isWeeks a2 μ hq) h (fun q2 h => ?_)
    refine rn_ifb_eq 13 25 dX10_then_13 (by decide) h (fun _ h => ?_) (fun _ h => ?_)
    · refine rw_iconst 25 (v := -1) dX10_then_25 (by decide) ?_
      exact rn_iret2 26 dX10_then_26 rfl h
    · refine rw_iload_n 16 dX10_then_16 3 rfl ?_
      refine rn_if_lt 17 25 dX10_then_17 (by decide) h (fun _ h => ?_) (fun _ h => ?_)
      · refine rw_iconst 25 (v := -1) dX10_then_25 (by decide) ?_
        exact rn_iret2 26 dX10_then_26 rfl h
      · refine rw_iload_n 20 dX10_then_20 3 rfl ?_
        refine rw_iconst 21 (v := 2) dX10_then_21 (by decide) ?_
        refine rn_icmp_le 22 27 dX10_then_22 (by decide) h (fun _ h => ?_) (fun _ h => ?_)
        · refine rw_aload_n 27 dX10_then_27 0 rfl ?_
          refine rw_getR 28 10 3 kc10 dX10_then_28 ly_0 rln_0 fX10_30 rfl rf_0_3 ?_
          refine rw_aload_n 31 dX10_then_31 0 rfl ?_
          refine rw_getR 32 10 2 kc10 dX10_then_32 ly_0 rln_0 fX10_26 rfl rf_0_2 ?_
          refine rn_cVmv 35 5 [.ref 9] dX10_then_35 caX5_copyFrom lX10_258 inX5_copyFrom slX5_copyFrom rfl ly_13 ⟨_, rfl, rfl⟩ rln_13 naX5_copyFrom (Nat.le_of_ble_eq_true rfl) (Nat.le_of_ble_eq_true rfl) (by decide) (fun _ hq => wX5_copyFrom 13 okX5_13 9 okX5_9 μ hq) h (fun q3 h => ?_)
          refine rw_aload_n 38 dX10_then_38 0 rfl ?_
          refine rw_getR 39 10 6 kc10 dX10_then_39 ly_0 rln_0 fX10_47 rfl rf_0_6 ?_
          refine rw_aload_n 42 dX10_then_42 0 rfl ?_
          refine rw_getR 43 10 9 kc10 dX10_then_43 ly_0 rln_0 fX10_68 rfl rf_0_9 ?_
          refine rw_aload_n 46 dX10_then_46 0 rfl ?_
          refine rw_getR 47 10 3 kc10 dX10_then_47 ly_0 rln_0 fX10_30 rfl rf_0_3 ?_
          refine rw_iload_n 50 dX10_then_50 2 rfl ?_
          refine rw_aload_n 51 dX10_then_51 0 rfl ?_
          refine rw_getR 52 10 9 kc10 dX10_then_52 ly_0 rln_0 fX10_68 rfl rf_0_9 ?_
          refine rw_getI 55 7 9 kc7 dX10_then_55 ly_199 rln_199 fX10_185 rfl ?_
          refine rn_cVmv 58 1 [.ref 199, .ref 13, .int a2, .int (q3.1 199 9)] dX10_then_58 caX1_passDeadlyWeeks lX10_188 inX1_passDeadlyWeeks slX1_passDeadlyWeeks rfl ly_180 ⟨_, rfl, rfl⟩ rln_180 naX1_passDeadlyWeeks (Nat.le_of_ble_eq_true rfl) (Nat.le_of_ble_eq_true rfl) (by decide) (fun _ hq => wX1_passDeadlyWeeks 199 okX7_199 13 okX5_13 a2 (q3.1 199 9) q3 hq) h (fun q4 h => ?_)
          refine rw_iload_n 61 dX10_then_61 3 rfl ?_
          refine rn_if_ne 62 74 dX10_then_62 (by decide) h (fun _ h => ?_) (fun _ h => ?_)
          · refine rw_iload_n 74 dX10_then_74 3 rfl ?_
            refine rw_iconst 75 (v := 1) dX10_then_75 (by decide) ?_
            refine rn_icmp_ne 76 89 dX10_then_76 (by decide) h (fun _ h => ?_) (fun _ h => ?_)
            · refine rw_aload_n 89 dX10_then_89 0 rfl ?_
              refine rw_getR 90 10 3 kc10 dX10_then_90 ly_0 rln_0 fX10_30 rfl rf_0_3 ?_
              refine rw_iload_n 93 dX10_then_93 1 rfl ?_
              refine rn_cVpb 94 5 [.int a1] dX10_then_94 caX5_isDead lX10_149 inX5_isDead slX5_isDead rfl ly_13 ⟨_, rfl, rfl⟩ rln_13 naX5_isDead (Nat.le_of_ble_eq_true rfl) (Nat.le_of_ble_eq_true rfl) (by decide) (fun _ hq => wX5_isDead 13 okX5_13 a1 q4 hq) h (fun q5 h => ?_)
              refine rn_ifb_eq 97 104 dX10_then_97 (by decide) h (fun _ h => ?_) (fun _ h => ?_)
              · refine rw_iconst 104 (v := 0) dX10_then_104 (by decide) ?_
                exact rn_iret2 105 dX10_then_105 rfl h
              · refine rw_iconst 100 (v := 1) dX10_then_100 (by decide) ?_
                refine rw_goto 101 105 dX10_then_101 (by decide) ?_
                exact rn_iret2 105 dX10_then_105 rfl h
            · refine rw_aload_n 79 dX10_then_79 0 rfl ?_
              refine rw_getR 80 10 3 kc10 dX10_then_80 ly_0 rln_0 fX10_30 rfl rf_0_3 ?_
              refine rw_getR 83 5 6 kc5 dX10_then_83 ly_13 rln_13 fX10_146 rfl rf_13_6 ?_
              refine rw_iload_n 86 dX10_then_86 1 rfl ?_
              refine rn_iald 87 dX10_then_87 ly_16 rln_16 h (fun h => ?_)
              exact rn_iret2 88 dX10_then_88 rfl h
          · refine rw_aload_n 65 dX10_then_65 0 rfl ?_
            refine rw_getR 66 10 3 kc10 dX10_then_66 ly_0 rln_0 fX10_30 rfl rf_0_3 ?_
            refine rw_iload_n 69 dX10_then_69 1 rfl ?_
            refine rn_cVpi 70 5 [.int a1] dX10_then_70 caX5_whereIs lX10_142 inX5_whereIs slX5_whereIs rfl ly_13 ⟨_, rfl, rfl⟩ rln_13 naX5_whereIs (Nat.le_of_ble_eq_true rfl) (Nat.le_of_ble_eq_true rfl) (by decide) (fun _ hq => wX5_whereIs 13 okX5_13 a1 q4 hq) h (fun q6 h => ?_)
            exact rn_iret2 73 dX10_then_73 rfl h
        · refine rw_iconst 25 (v := -1) dX10_then_25 (by decide) ?_
          exact rn_iret2 26 dX10_then_26 rfl h
def fX10_wornIn (a1 : Int32) (a2 : Int32) (μ : Mem) : Option (Int32 × Mem) :=
  (fX10_isSunday a1 μ).bind fun q1 =>
  if q1 = true then
    (fX10_isWeeks a2 μ).bind fun q2 =>
    if q2 = true then
      (fX5_copyFrom 13 9 μ).bind fun q3 =>
      (fX1_passDeadlyWeeks 199 13 a2 (q3.1 199 9) q3).bind fun q4 =>
      if inb a1 4 then
      some ((q4.1 15 a1.toNatClampNeg), q4)
      else none
    else
      some ((-1), μ)
  else
    some ((-1), μ)
set_option maxRecDepth 100000 in
theorem wX10_wornIn (a1 : Int32) (a2 : Int32) (μ : Mem) {res : Int32 × Mem} (h : fX10_wornIn a1 a2 μ = some res) : Ct mX10_wornIn 7 NF NF [.ref 0, .int a1, .int a2] (μ, Rf0, NF) (QN (some (.int res.1)) res.2 Rf0 NF) := by
  unfold fX10_wornIn at h
  show RW mX10_wornIn 7 NF NF 0 [(0, .ref 0), (1, .int a1), (2, .int a2)] [] (μ, Rf0, NF) (QN (some (.int res.1)) res.2 Rf0 NF)
  refine rw_aload_n 0 dX10_wornIn_0 0 rfl ?_
  refine rw_iload_n 1 dX10_wornIn_1 1 rfl ?_
  refine rn_cVpb 2 10 [.int a1] dX10_wornIn_2 caX10_isSunday lX10_107 inX10_isSunday slX10_isSunday rfl ly_0 ⟨_, rfl, rfl⟩ rln_0 naX10_isSunday (Nat.le_of_ble_eq_true rfl) (Nat.le_of_ble_eq_true rfl) (by decide) (fun _ hq => wX10_isSunday a1 μ hq) h (fun q1 h => ?_)
  refine rn_ifb_eq 5 16 dX10_wornIn_5 (by decide) h (fun _ h => ?_) (fun _ h => ?_)
  · refine rw_iconst 16 (v := -1) dX10_wornIn_16 (by decide) ?_
    exact rn_iret2 17 dX10_wornIn_17 rfl h
  · refine rw_aload_n 8 dX10_wornIn_8 0 rfl ?_
    refine rw_iload_n 9 dX10_wornIn_9 2 rfl ?_
    refine rn_cVpb 10 10 [.int a2] dX10_wornIn_10 caX10_isWeeks lX10_182 inX10_isWeeks slX10_isWeeks rfl ly_0 ⟨_, rfl, rfl⟩ rln_0 naX10_isWeeks (Nat.le_of_ble_eq_true rfl) (Nat.le_of_ble_eq_true rfl) (by decide) (fun _ hq => wX10_isWeeks a2 μ hq) h (fun q2 h => ?_)
    refine rn_ifb_ne 13 18 dX10_wornIn_13 (by decide) h (fun _ h => ?_) (fun _ h => ?_)
    · refine rw_aload_n 18 dX10_wornIn_18 0 rfl ?_
      refine rw_getR 19 10 3 kc10 dX10_wornIn_19 ly_0 rln_0 fX10_30 rfl rf_0_3 ?_
      refine rw_aload_n 22 dX10_wornIn_22 0 rfl ?_
      refine rw_getR 23 10 2 kc10 dX10_wornIn_23 ly_0 rln_0 fX10_26 rfl rf_0_2 ?_
      refine rn_cVmv 26 5 [.ref 9] dX10_wornIn_26 caX5_copyFrom lX10_258 inX5_copyFrom slX5_copyFrom rfl ly_13 ⟨_, rfl, rfl⟩ rln_13 naX5_copyFrom (Nat.le_of_ble_eq_true rfl) (Nat.le_of_ble_eq_true rfl) (by decide) (fun _ hq => wX5_copyFrom 13 okX5_13 9 okX5_9 μ hq) h (fun q3 h => ?_)
      refine rw_aload_n 29 dX10_wornIn_29 0 rfl ?_
      refine rw_getR 30 10 6 kc10 dX10_wornIn_30 ly_0 rln_0 fX10_47 rfl rf_0_6 ?_
      refine rw_aload_n 33 dX10_wornIn_33 0 rfl ?_
      refine rw_getR 34 10 9 kc10 dX10_wornIn_34 ly_0 rln_0 fX10_68 rfl rf_0_9 ?_
      refine rw_aload_n 37 dX10_wornIn_37 0 rfl ?_
      refine rw_getR 38 10 3 kc10 dX10_wornIn_38 ly_0 rln_0 fX10_30 rfl rf_0_3 ?_
      refine rw_iload_n 41 dX10_wornIn_41 2 rfl ?_
      refine rw_aload_n 42 dX10_wornIn_42 0 rfl ?_
      refine rw_getR 43 10 9 kc10 dX10_wornIn_43 ly_0 rln_0 fX10_68 rfl rf_0_9 ?_
      refine rw_getI 46 7 9 kc7 dX10_wornIn_46 ly_199 rln_199 fX10_185 rfl ?_
      refine rn_cVmv 49 1 [.ref 199, .ref 13, .int a2, .int (q3.1 199 9)] dX10_wornIn_49 caX1_passDeadlyWeeks lX10_188 inX1_passDeadlyWeeks slX1_passDeadlyWeeks rfl ly_180 ⟨_, rfl, rfl⟩ rln_180 naX1_passDeadlyWeeks (Nat.le_of_ble_eq_true rfl) (Nat.le_of_ble_eq_true rfl) (by decide) (fun _ hq => wX1_passDeadlyWeeks 199 okX7_199 13 okX5_13 a2 (q3.1 199 9) q3 hq) h (fun q4 h => ?_)
      refine rw_aload_n 52 dX10_wornIn_52 0 rfl ?_
      refine rw_getR 53 10 3 kc10 dX10_wornIn_53 ly_0 rln_0 fX10_30 rfl rf_0_3 ?_
      refine rw_getR 56 5 5 kc5 dX10_wornIn_56 ly_13 rln_13 fX10_117 rfl rf_13_5 ?_
      refine rw_iload_n 59 dX10_wornIn_59 1 rfl ?_
      refine rn_iald 60 dX10_wornIn_60 ly_15 rln_15 h (fun h => ?_)
      exact rn_iret2 61 dX10_wornIn_61 rfl h
    · refine rw_iconst 16 (v := -1) dX10_wornIn_16 (by decide) ?_
      exact rn_iret2 17 dX10_wornIn_17 rfl h
def fX10_year_35   (v1 : Int32) (v2 : Int32) (v3 : Int32)  (K : Int32 → Mem → Option (Int32 × Mem)) : Nat → Int32 → Int32 → Mem → Option (Int32 × Mem)
  | 0, _, _, _ => none
  | n + 1, v4, v5, μ =>
    if v5 < v3 then
      (fX5_copyFrom 13 9 μ).bind fun q3 =>
      (fX1_passDeadlyWeeks 199 13 v2 ((q3.1 199 9) + v5) q3).bind fun q4 =>
      (fX5_isDead 13 v1 q4).bind fun q5 =>
      if q5 = true then
        fX10_year_35 v1 v2 v3 K n v4 (v5 + 1) q4
      else
        fX10_year_35 v1 v2 v3 K n (v4 + 1) (v5 + 1) q4
    else
      K v4 μ
def fX10_year (a1 : Int32) (a2 : Int32) (a3 : Int32) (μ : Mem) : Option (Int32 × Mem) :=
  (fX10_isGuest a1 μ).bind fun q1 =>
  if q1 = true then
    (fX10_isWeeks a2 μ).bind fun q2 =>
    if q2 = true then
      if a3 < 1 then
        some ((-1), μ)
      else
        if 20 < a3 then
          some ((-1), μ)
        else
          fX10_year_35 a1 a2 a3 (fun y6 μ7 =>
              some (y6, μ7)
          ) FU 0 0 μ
    else
      some ((-1), μ)
  else
    some ((-1), μ)
set_option maxRecDepth 100000 in
theorem wX10_year_35   (v1 : Int32) (v2 : Int32) (v3 : Int32)  (K : Int32 → Mem → Option (Int32 × Mem)) {res : Int32 × Mem} (hK : ∀ (v4 : Int32) (μ : Mem), K v4 μ = some res → RW mX10_year 7 NF NF 98 [(4, .int v4)] [] (μ, Rf0, NF) (QN (some (.int res.1)) res.2 Rf0 NF)) : ∀ (n9 : Nat) (v4 : Int32) (v5 : Int32) (μ : Mem), fX10_year_35 v1 v2 v3 K n9 v4 v5 μ = some res → RW mX10_year 7 NF NF 35 [(0, .ref 0), (1, .int v1), (2, .int v2), (3, .int v3), (4, .int v4), (5, .int v5)] [] (μ, Rf0, NF) (QN (some (.int res.1)) res.2 Rf0 NF) := by
  intro n9
  induction n9 with
  | zero => intro _ _ _ h; cases h
  | succ n ih =>
    intro v4 v5 μ h
    unfold fX10_year_35 at h
    refine rw_iload 35 dX10_year_35 5 rfl ?_
    refine rw_iload_n 37 dX10_year_37 3 rfl ?_
    refine rn_icmp_ge 38 98 dX10_year_38 (by decide) h (fun _ h => ?_) (fun _ h => ?_)
    · refine rw_pick 98 [4] rfl ?_
      exact hK v4 μ h
    · refine rw_aload_n 41 dX10_year_41 0 rfl ?_
      refine rw_getR 42 10 3 kc10 dX10_year_42 ly_0 rln_0 fX10_30 rfl rf_0_3 ?_
      refine rw_aload_n 45 dX10_year_45 0 rfl ?_
      refine rw_getR 46 10 2 kc10 dX10_year_46 ly_0 rln_0 fX10_26 rfl rf_0_2 ?_
      refine rn_cVmv 49 5 [.ref 9] dX10_year_49 caX5_copyFrom lX10_258 inX5_copyFrom slX5_copyFrom rfl ly_13 ⟨_, rfl, rfl⟩ rln_13 naX5_copyFrom (Nat.le_of_ble_eq_true rfl) (Nat.le_of_ble_eq_true rfl) (by decide) (fun _ hq => wX5_copyFrom 13 okX5_13 9 okX5_9 μ hq) h (fun q3 h => ?_)
      refine rw_aload_n 52 dX10_year_52 0 rfl ?_
      refine rw_getR 53 10 6 kc10 dX10_year_53 ly_0 rln_0 fX10_47 rfl rf_0_6 ?_
      refine rw_aload_n 56 dX10_year_56 0 rfl ?_
      refine rw_getR 57 10 9 kc10 dX10_year_57 ly_0 rln_0 fX10_68 rfl rf_0_9 ?_
      refine rw_aload_n 60 dX10_year_60 0 rfl ?_
      refine rw_getR 61 10 3 kc10 dX10_year_61 ly_0 rln_0 fX10_30 rfl rf_0_3 ?_
      refine rw_iload_n 64 dX10_year_64 2 rfl ?_
      refine rw_aload_n 65 dX10_year_65 0 rfl ?_
      refine rw_getR 66 10 9 kc10 dX10_year_66 ly_0 rln_0 fX10_68 rfl rf_0_9 ?_
      refine rw_getI 69 7 9 kc7 dX10_year_69 ly_199 rln_199 fX10_185 rfl ?_
      refine rw_iload 72 dX10_year_72 5 rfl ?_
      refine rw_iadd 74 dX10_year_74 ?_
      refine rn_cVmv 75 1 [.ref 199, .ref 13, .int v2, .int ((q3.1 199 9) + v5)] dX10_year_75 caX1_passDeadlyWeeks lX10_188 inX1_passDeadlyWeeks slX1_passDeadlyWeeks rfl ly_180 ⟨_, rfl, rfl⟩ rln_180 naX1_passDeadlyWeeks (Nat.le_of_ble_eq_true rfl) (Nat.le_of_ble_eq_true rfl) (by decide) (fun _ hq => wX1_passDeadlyWeeks 199 okX7_199 13 okX5_13 v2 ((q3.1 199 9) + v5) q3 hq) h (fun q4 h => ?_)
      refine rw_aload_n 78 dX10_year_78 0 rfl ?_
      refine rw_getR 79 10 3 kc10 dX10_year_79 ly_0 rln_0 fX10_30 rfl rf_0_3 ?_
      refine rw_iload_n 82 dX10_year_82 1 rfl ?_
      refine rn_cVpb 83 5 [.int v1] dX10_year_83 caX5_isDead lX10_149 inX5_isDead slX5_isDead rfl ly_13 ⟨_, rfl, rfl⟩ rln_13 naX5_isDead (Nat.le_of_ble_eq_true rfl) (Nat.le_of_ble_eq_true rfl) (by decide) (fun _ hq => wX5_isDead 13 okX5_13 v1 q4 hq) h (fun q5 h => ?_)
      refine rn_ifb_ne 86 92 dX10_year_86 (by decide) h (fun _ h => ?_) (fun _ h => ?_)
      · refine rw_iinc 92 [(0, .ref 0), (1, .int v1), (2, .int v2), (3, .int v3), (4, .int v4), (5, .int (v5 + 1))] dX10_year_92 5 rfl rfl (by decide) rfl ?_
        refine rw_goto 95 35 dX10_year_95 (by decide) ?_
        exact ih v4 (v5 + 1) q4 h
      · refine rw_iinc 89 [(0, .ref 0), (1, .int v1), (2, .int v2), (3, .int v3), (4, .int (v4 + 1)), (5, .int v5)] dX10_year_89 4 rfl rfl (by decide) rfl ?_
        refine rw_iinc 92 [(0, .ref 0), (1, .int v1), (2, .int v2), (3, .int v3), (4, .int (v4 + 1)), (5, .int (v5 + 1))] dX10_year_92 5 rfl rfl (by decide) rfl ?_
        refine rw_goto 95 35 dX10_year_95 (by decide) ?_
        exact ih (v4 + 1) (v5 + 1) q4 h
set_option maxRecDepth 100000 in
theorem wX10_year (a1 : Int32) (a2 : Int32) (a3 : Int32) (μ : Mem) {res : Int32 × Mem} (h : fX10_year a1 a2 a3 μ = some res) : Ct mX10_year 7 NF NF [.ref 0, .int a1, .int a2, .int a3] (μ, Rf0, NF) (QN (some (.int res.1)) res.2 Rf0 NF) := by
  unfold fX10_year at h
  show RW mX10_year 7 NF NF 0 [(0, .ref 0), (1, .int a1), (2, .int a2), (3, .int a3)] [] (μ, Rf0, NF) (QN (some (.int res.1)) res.2 Rf0 NF)
  refine rw_aload_n 0 dX10_year_0 0 rfl ?_
  refine rw_iload_n 1 dX10_year_1 1 rfl ?_
  refine rn_cVpb 2 10 [.int a1] dX10_year_2 caX10_isGuest lX10_130 inX10_isGuest slX10_isGuest rfl ly_0 ⟨_, rfl, rfl⟩ rln_0 naX10_isGuest (Nat.le_of_ble_eq_true rfl) (Nat.le_of_ble_eq_true rfl) (by decide) (fun _ hq => wX10_isGuest a1 μ hq) h (fun q1 h => ?_)
  refine rn_ifb_eq 5 27 dX10_year_5 (by decide) h (fun _ h => ?_) (fun _ h => ?_)
  · refine rw_iconst 27 (v := -1) dX10_year_27 (by decide) ?_
    exact rn_iret2 28 dX10_year_28 rfl h
  · refine rw_aload_n 8 dX10_year_8 0 rfl ?_
    refine rw_iload_n 9 dX10_year_9 2 rfl ?_
    refine rn_cVpb 10 10 [.int a2] dX10_year_10 caX10_isWeeks lX10_182 inX10_isWeeks slX10_isWeeks rfl ly_0 ⟨_, rfl, rfl⟩ rln_0 naX10_isWeeks (Nat.le_of_ble_eq_true rfl) (Nat.le_of_ble_eq_true rfl) (by decide) (fun _ hq => wX10_isWeeks a2 μ hq) h (fun q2 h => ?_)
    refine rn_ifb_eq 13 27 dX10_year_13 (by decide) h (fun _ h => ?_) (fun _ h => ?_)
    · refine rw_iconst 27 (v := -1) dX10_year_27 (by decide) ?_
      exact rn_iret2 28 dX10_year_28 rfl h
    · refine rw_iload_n 16 dX10_year_16 3 rfl ?_
      refine rw_iconst 17 (v := 1) dX10_year_17 (by decide) ?_
      refine rn_icmp_lt 18 27 dX10_year_18 (by decide) h (fun _ h => ?_) (fun _ h => ?_)
      · refine rw_iconst 27 (v := -1) dX10_year_27 (by decide) ?_
        exact rn_iret2 28 dX10_year_28 rfl h
      · refine rw_iload_n 21 dX10_year_21 3 rfl ?_
        refine rw_bipush 22 (v := 20) dX10_year_22 (by decide) ?_
        refine rn_icmp_le 24 29 dX10_year_24 (by decide) h (fun _ h => ?_) (fun _ h => ?_)
        · refine rw_iconst 29 (v := 0) dX10_year_29 (by decide) ?_
          refine rw_istore 30 [(0, .ref 0), (1, .int a1), (2, .int a2), (3, .int a3), (4, .int 0)] dX10_year_30 (by decide) rfl ?_
          refine rw_iconst 32 (v := 0) dX10_year_32 (by decide) ?_
          refine rw_istore 33 [(0, .ref 0), (1, .int a1), (2, .int a2), (3, .int a3), (4, .int 0), (5, .int 0)] dX10_year_33 (by decide) rfl ?_
          refine wX10_year_35 a1 a2 a3 _ (fun y6 μ7 h => ?_) FU 0 0 μ h
          refine rw_iload 98 dX10_year_98 0 rfl ?_
          exact rn_iret2 100 dX10_year_100 rfl h
        · refine rw_iconst 27 (v := -1) dX10_year_27 (by decide) ?_
          exact rn_iret2 28 dX10_year_28 rfl h
def fX0_add (a1 : Int32) (a2 : Int32) (μ : Mem) : Option (Int32 × Mem) :=
  if (μ.1 196 0) < 20 then
    if inb (μ.1 196 0) 20 then nm (wI μ 197 (μ.1 196 0).toNatClampNeg a1) fun μ1 =>
    if inb (μ1.1 196 0) 20 then nm (wI μ1 198 (μ1.1 196 0).toNatClampNeg (a2 &&& 1)) fun μ2 =>
    nm (wI μ2 196 0 ((μ2.1 196 0) + 1)) fun μ3 =>
    some (((μ3.1 196 0) - 1), μ3)
    else none
    else none
  else
    some ((-1), μ)
set_option maxRecDepth 100000 in
theorem wX0_add (a1 : Int32) (a2 : Int32) (μ : Mem) {res : Int32 × Mem} (h : fX0_add a1 a2 μ = some res) : Ct mX0_add 1 NF NF [.ref 196, .int a1, .int a2] (μ, Rf0, NF) (QN (some (.int res.1)) res.2 Rf0 NF) := by
  unfold fX0_add at h
  show RW mX0_add 1 NF NF 0 [(0, .ref 196), (1, .int a1), (2, .int a2)] [] (μ, Rf0, NF) (QN (some (.int res.1)) res.2 Rf0 NF)
  refine rw_aload_n 0 dX0_add_0 0 rfl ?_
  refine rw_getI 1 0 0 kc0 dX0_add_1 ly_196 rln_196 fX0_9 rfl ?_
  refine rw_bipush 4 (v := 20) dX0_add_4 (by decide) ?_
  refine rn_icmp_lt 6 11 dX0_add_6 (by decide) h (fun _ h => ?_) (fun _ h => ?_)
  · refine rw_aload_n 11 dX0_add_11 0 rfl ?_
    refine rw_getR 12 0 1 kc0 dX0_add_12 ly_196 rln_196 fX0_15 rfl rf_196_1 ?_
    refine rw_aload_n 15 dX0_add_15 0 rfl ?_
    refine rw_getI 16 0 0 kc0 dX0_add_16 ly_196 rln_196 fX0_9 rfl ?_
    refine rw_iload_n 19 dX0_add_19 1 rfl ?_
    refine rn_iast 20 dX0_add_20 ly_197 rln_197 h (fun μ1 h => ?_)
    refine rw_aload_n 21 dX0_add_21 0 rfl ?_
    refine rw_getR 22 0 2 kc0 dX0_add_22 ly_196 rln_196 fX0_19 rfl rf_196_2 ?_
    refine rw_aload_n 25 dX0_add_25 0 rfl ?_
    refine rw_getI 26 0 0 kc0 dX0_add_26 ly_196 rln_196 fX0_9 rfl ?_
    refine rw_iload_n 29 dX0_add_29 2 rfl ?_
    refine rn_zast 30 dX0_add_30 ly_198 rln_198 h (fun μ2 h => ?_)
    refine rw_aload_n 31 dX0_add_31 0 rfl ?_
    refine rw_dup 32 dX0_add_32 rfl ?_
    refine rw_getI 33 0 0 kc0 dX0_add_33 ly_196 rln_196 fX0_9 rfl ?_
    refine rw_iconst 36 (v := 1) dX0_add_36 (by decide) ?_
    refine rw_iadd 37 dX0_add_37 ?_
    refine rn_putI 38 0 0 kc0 dX0_add_38 ly_196 rln_196 fX0_9 (fun q hq => by cases hq; rfl) rfl rfl rfl h (fun μ3 h => ?_)
    refine rw_aload_n 41 dX0_add_41 0 rfl ?_
    refine rw_getI 42 0 0 kc0 dX0_add_42 ly_196 rln_196 fX0_9 rfl ?_
    refine rw_iconst 45 (v := 1) dX0_add_45 (by decide) ?_
    refine rw_isub 46 dX0_add_46 ?_
    exact rn_iret2 47 dX0_add_47 rfl h
  · refine rw_iconst 9 (v := -1) dX0_add_9 (by decide) ?_
    exact rn_iret2 10 dX0_add_10 rfl h
def fX10_tell (a1 : Int32) (a2 : Int32) (μ : Mem) : Option (Int32 × Mem) :=
  if a1 < 0 then
    some ((-1), μ)
  else
    if a1 < 24 then
      if (μ.1 196 0) < 20 then
        (fX0_add a1 a2 μ).bind fun q1 =>
        some (q1.1, q1.2)
      else
        some ((-1), μ)
    else
      some ((-1), μ)
set_option maxRecDepth 100000 in
theorem wX10_tell (a1 : Int32) (a2 : Int32) (μ : Mem) {res : Int32 × Mem} (h : fX10_tell a1 a2 μ = some res) : Ct mX10_tell 2 NF NF [.ref 0, .int a1, .int a2] (μ, Rf0, NF) (QN (some (.int res.1)) res.2 Rf0 NF) := by
  unfold fX10_tell at h
  show RW mX10_tell 2 NF NF 0 [(0, .ref 0), (1, .int a1), (2, .int a2)] [] (μ, Rf0, NF) (QN (some (.int res.1)) res.2 Rf0 NF)
  refine rw_iload_n 0 dX10_tell_0 1 rfl ?_
  refine rn_if_lt 1 22 dX10_tell_1 (by decide) h (fun _ h => ?_) (fun _ h => ?_)
  · refine rw_iconst 22 (v := -1) dX10_tell_22 (by decide) ?_
    exact rn_iret2 23 dX10_tell_23 rfl h
  · refine rw_iload_n 4 dX10_tell_4 1 rfl ?_
    refine rw_bipush 5 (v := 24) dX10_tell_5 (by decide) ?_
    refine rn_icmp_ge 7 22 dX10_tell_7 (by decide) h (fun _ h => ?_) (fun _ h => ?_)
    · refine rw_iconst 22 (v := -1) dX10_tell_22 (by decide) ?_
      exact rn_iret2 23 dX10_tell_23 rfl h
    · refine rw_aload_n 10 dX10_tell_10 0 rfl ?_
      refine rw_getR 11 10 8 kc10 dX10_tell_11 ly_0 rln_0 fX10_61 rfl rf_0_8 ?_
      refine rw_getI 14 0 0 kc0 dX10_tell_14 ly_196 rln_196 fX10_103 rfl ?_
      refine rw_bipush 17 (v := 20) dX10_tell_17 (by decide) ?_
      refine rn_icmp_lt 19 24 dX10_tell_19 (by decide) h (fun _ h => ?_) (fun _ h => ?_)
      · refine rw_aload_n 24 dX10_tell_24 0 rfl ?_
        refine rw_getR 25 10 8 kc10 dX10_tell_25 ly_0 rln_0 fX10_61 rfl rf_0_8 ?_
        refine rw_iload_n 28 dX10_tell_28 1 rfl ?_
        refine rw_iload_n 29 dX10_tell_29 2 rfl ?_
        refine rn_cVmi 30 0 [.int a1, .int a2] dX10_tell_30 caX0_add lX10_279 inX0_add slX0_add rfl ly_196 ⟨_, rfl, rfl⟩ rln_196 naX0_add (Nat.le_of_ble_eq_true rfl) (Nat.le_of_ble_eq_true rfl) (by decide) (fun _ hq => wX0_add a1 a2 μ hq) h (fun q1 h => ?_)
        exact rn_iret2 33 dX10_tell_33 rfl h
      · refine rw_iconst 22 (v := -1) dX10_tell_22 (by decide) ?_
        exact rn_iret2 23 dX10_tell_23 rfl h
def fX10_forget  (μ : Mem) : Option (Int32 × Mem) :=
  nm (wI μ 196 0 0) fun μ1 =>
  some ((μ.1 196 0), μ1)
set_option maxRecDepth 100000 in
theorem wX10_forget  (μ : Mem) {res : Int32 × Mem} (h : fX10_forget  μ = some res) : Ct mX10_forget 1 NF NF [.ref 0] (μ, Rf0, NF) (QN (some (.int res.1)) res.2 Rf0 NF) := by
  unfold fX10_forget at h
  show RW mX10_forget 1 NF NF 0 [(0, .ref 0)] [] (μ, Rf0, NF) (QN (some (.int res.1)) res.2 Rf0 NF)
  refine rw_aload_n 0 dX10_forget_0 0 rfl ?_
  refine rw_getR 1 10 8 kc10 dX10_forget_1 ly_0 rln_0 fX10_61 rfl rf_0_8 ?_
  refine rw_getI 4 0 0 kc0 dX10_forget_4 ly_196 rln_196 fX10_103 rfl ?_
  refine rw_istore_n 7 [(0, .ref 0), (1, .int (μ.1 196 0))] dX10_forget_7 (by decide) rfl ?_
  refine rw_aload_n 8 dX10_forget_8 0 rfl ?_
  refine rw_getR 9 10 8 kc10 dX10_forget_9 ly_0 rln_0 fX10_61 rfl rf_0_8 ?_
  refine rw_iconst 12 (v := 0) dX10_forget_12 (by decide) ?_
  refine rn_putI 13 0 0 kc0 dX10_forget_13 ly_196 rln_196 fX10_103 (fun q hq => by cases hq; rfl) rfl rfl rfl h (fun μ1 h => ?_)
  refine rw_iload_n 16 dX10_forget_16 1 rfl ?_
  exact rn_iret2 17 dX10_forget_17 rfl h
def fX0_agrees_3 (t1 : Nat)  (v2 : Int32) (v3 : Int32) (μ : Mem) (K : Unit → Option (Bool)) : Nat → Int32 → Option (Bool)
  | 0, _ => none
  | n + 1, v4 =>
    if v4 < v3 then
      if v4 < 20 then
        if inb v4 20 then
        (fX7_isThere t1 v2 (μ.1 197 v4.toNatClampNeg) μ).bind fun q1 =>
        if inb v4 20 then
        if (b2i q1) = (μ.1 198 v4.toNatClampNeg) then
          fX0_agrees_3 t1 v2 v3 μ K n (v4 + 1)
        else
          some false
        else none
        else none
      else
        K ()
    else
      K ()
def fX0_agrees (t1 : Nat) (a2 : Int32) (a3 : Int32) (μ : Mem) : Option (Bool) :=
  fX0_agrees_3 t1 a2 a3 μ (fun _ =>
      some true
  ) FU 0
set_option maxRecDepth 100000 in
theorem wX0_agrees_3 (t1 : Nat) (ht1 : okX7 Rf0 NF t1)  (v2 : Int32) (v3 : Int32) (μ : Mem) (K : Unit → Option (Bool)) {res : Bool} (hK : ∀ (_ : Unit), K () = some res → RW mX0_agrees 2 NF NF 46 [] [] (μ, Rf0, NF) (QN (some (.int (b2i res))) μ Rf0 NF)) : ∀ (n9 : Nat) (v4 : Int32), fX0_agrees_3 t1 v2 v3 μ K n9 v4 = some res → RW mX0_agrees 2 NF NF 3 [(0, .ref 196), (1, .ref t1), (2, .int v2), (3, .int v3), (4, .int v4)] [] (μ, Rf0, NF) (QN (some (.int (b2i res))) μ Rf0 NF) := by
  intro n9
  induction n9 with
  | zero => intro _ h; cases h
  | succ n ih =>
    intro v4 h
    unfold fX0_agrees_3 at h
    refine rw_iload 3 dX0_agrees_3 4 rfl ?_
    refine rw_iload_n 5 dX0_agrees_5 3 rfl ?_
    refine rn_icmp_ge 6 46 dX0_agrees_6 (by decide) h (fun _ h => ?_) (fun _ h => ?_)
    · refine rw_pick 46 [] rfl ?_
      exact hK () h
    · refine rw_iload 9 dX0_agrees_9 4 rfl ?_
      refine rw_bipush 11 (v := 20) dX0_agrees_11 (by decide) ?_
      refine rn_icmp_ge 13 46 dX0_agrees_13 (by decide) h (fun _ h => ?_) (fun _ h => ?_)
      · refine rw_pick 46 [] rfl ?_
        exact hK () h
      · refine rw_aload_n 16 dX0_agrees_16 1 rfl ?_
        refine rw_iload_n 17 dX0_agrees_17 2 rfl ?_
        refine rw_aload_n 18 dX0_agrees_18 0 rfl ?_
        refine rw_getR 19 0 1 kc0 dX0_agrees_19 ly_196 rln_196 fX0_15 rfl rf_196_1 ?_
        refine rw_iload 22 dX0_agrees_22 4 rfl ?_
        refine rn_iald 24 dX0_agrees_24 ly_197 rln_197 h (fun h => ?_)
        refine rn_cVpb 25 7 [.int v2, .int (μ.1 197 v4.toNatClampNeg)] dX0_agrees_25 caX7_isThere lX0_32 inX7_isThere slX7_isThere rfl (o7l ht1) ⟨_, rfl, rfl⟩ (o7n ht1) naX7_isThere (Nat.le_of_ble_eq_true rfl) (Nat.le_of_ble_eq_true rfl) (by decide) (fun _ hq => wX7_isThere t1 ht1 v2 (μ.1 197 v4.toNatClampNeg) μ hq) h (fun q1 h => ?_)
        refine rw_aload_n 28 dX0_agrees_28 0 rfl ?_
        refine rw_getR 29 0 2 kc0 dX0_agrees_29 ly_196 rln_196 fX0_19 rfl rf_196_2 ?_
        refine rw_iload 32 dX0_agrees_32 4 rfl ?_
        refine rn_zald 34 dX0_agrees_34 ly_198 rln_198 h (fun h => ?_)
        refine rn_icmp_eq 35 40 dX0_agrees_35 (by decide) h (fun _ h => ?_) (fun _ h => ?_)
        · refine rw_iinc 40 [(0, .ref 196), (1, .ref t1), (2, .int v2), (3, .int v3), (4, .int (v4 + 1))] dX0_agrees_40 4 rfl rfl (by decide) rfl ?_
          refine rw_goto 43 3 dX0_agrees_43 (by decide) ?_
          exact ih (v4 + 1) h
        · refine rw_iconst 38 (v := 0) dX0_agrees_38 (by decide) ?_
          exact rn_zret 39 (v := false) dX0_agrees_39 rfl h
set_option maxRecDepth 100000 in
theorem wX0_agrees (t1 : Nat) (ht1 : okX7 Rf0 NF t1) (a2 : Int32) (a3 : Int32) (μ : Mem) {res : Bool} (h : fX0_agrees t1 a2 a3 μ = some res) : Ct mX0_agrees 2 NF NF [.ref 196, .ref t1, .int a2, .int a3] (μ, Rf0, NF) (QN (some (.int (b2i res))) μ Rf0 NF) := by
  unfold fX0_agrees at h
  show RW mX0_agrees 2 NF NF 0 [(0, .ref 196), (1, .ref t1), (2, .int a2), (3, .int a3)] [] (μ, Rf0, NF) (QN (some (.int (b2i res))) μ Rf0 NF)
  refine rw_iconst 0 (v := 0) dX0_agrees_0 (by decide) ?_
  refine rw_istore 1 [(0, .ref 196), (1, .ref t1), (2, .int a2), (3, .int a3), (4, .int 0)] dX0_agrees_1 (by decide) rfl ?_
  refine wX0_agrees_3 t1 ht1 a2 a3 μ _ (fun _ h => ?_) FU 0 h
  refine rw_iconst 46 (v := 1) dX0_agrees_46 (by decide) ?_
  exact rn_zret 47 (v := true) dX0_agrees_47 rfl h
def fX0_guestsLeft_5 (t1 : Nat)  (v2 : Int32) (μ : Mem) (K : Int32 → Option (Int32)) : Nat → Int32 → Int32 → Option (Int32)
  | 0, _, _ => none
  | n + 1, v3, v4 =>
    if v4 < (μ.1 t1 3) then
      (fX0_agrees t1 v4 v2 μ).bind fun q1 =>
      if q1 = true then
        nm (v3 ||| ((1 : Int32) <<< (v4 &&& 31))) fun x2 =>
        fX0_guestsLeft_5 t1 v2 μ K n x2 (v4 + 1)
      else
        fX0_guestsLeft_5 t1 v2 μ K n v3 (v4 + 1)
    else
      K v3
def fX0_guestsLeft (t1 : Nat) (a2 : Int32) (μ : Mem) : Option (Int32) :=
  fX0_guestsLeft_5 t1 a2 μ (fun y3 =>
      some y3
  ) FU 0 0
set_option maxRecDepth 100000 in
theorem wX0_guestsLeft_5 (t1 : Nat) (ht1 : okX7 Rf0 NF t1)  (v2 : Int32) (μ : Mem) (K : Int32 → Option (Int32)) {res : Int32} (hK : ∀ (v3 : Int32), K v3 = some res → RW mX0_guestsLeft 3 NF NF 38 [(3, .int v3)] [] (μ, Rf0, NF) (QN (some (.int res)) μ Rf0 NF)) : ∀ (n9 : Nat) (v3 : Int32) (v4 : Int32), fX0_guestsLeft_5 t1 v2 μ K n9 v3 v4 = some res → RW mX0_guestsLeft 3 NF NF 5 [(0, .ref 196), (1, .ref t1), (2, .int v2), (3, .int v3), (4, .int v4)] [] (μ, Rf0, NF) (QN (some (.int res)) μ Rf0 NF) := by
  intro n9
  induction n9 with
  | zero => intro _ _ h; cases h
  | succ n ih =>
    intro v3 v4 h
    unfold fX0_guestsLeft_5 at h
    refine rw_iload 5 dX0_guestsLeft_5 4 rfl ?_
    refine rw_aload_n 7 dX0_guestsLeft_7 1 rfl ?_
    refine rw_getI 8 7 3 kc7 dX0_guestsLeft_8 (o7l ht1) (o7n ht1) fX0_23 rfl ?_
    refine rn_icmp_ge 11 38 dX0_guestsLeft_11 (by decide) h (fun _ h => ?_) (fun _ h => ?_)
    · refine rw_pick 38 [3] rfl ?_
      exact hK v3 h
    · refine rw_aload_n 14 dX0_guestsLeft_14 0 rfl ?_
      refine rw_aload_n 15 dX0_guestsLeft_15 1 rfl ?_
      refine rw_iload 16 dX0_guestsLeft_16 4 rfl ?_
      refine rw_iload_n 18 dX0_guestsLeft_18 2 rfl ?_
      refine rn_cVpb 19 0 [.ref t1, .int v4, .int v2] dX0_guestsLeft_19 caX0_agrees lX0_28 inX0_agrees slX0_agrees rfl ly_196 ⟨_, rfl, rfl⟩ rln_196 naX0_agrees (Nat.le_of_ble_eq_true rfl) (Nat.le_of_ble_eq_true rfl) (by decide) (fun _ hq => wX0_agrees t1 ht1 v4 v2 μ hq) h (fun q1 h => ?_)
      refine rn_ifb_eq 22 32 dX0_guestsLeft_22 (by decide) h (fun _ h => ?_) (fun _ h => ?_)
      · refine rw_iinc 32 [(0, .ref 196), (1, .ref t1), (2, .int v2), (3, .int v3), (4, .int (v4 + 1))] dX0_guestsLeft_32 4 rfl rfl (by decide) rfl ?_
        refine rw_goto 35 5 dX0_guestsLeft_35 (by decide) ?_
        exact ih v3 (v4 + 1) h
      · refine rw_iload_n 25 dX0_guestsLeft_25 3 rfl ?_
        refine rw_iconst 26 (v := 1) dX0_guestsLeft_26 (by decide) ?_
        refine rw_iload 27 dX0_guestsLeft_27 4 rfl ?_
        refine rw_ishl 29 dX0_guestsLeft_29 ?_
        refine rw_ior 30 dX0_guestsLeft_30 ?_
        refine rn_ist_n 31 (fun x2 => [(0, .ref 196), (1, .ref t1), (2, .int v2), (3, .int x2), (4, .int v4)]) dX0_guestsLeft_31 (by decide) (fun _ => rfl) h (fun x2 h => ?_)
        refine rw_iinc 32 [(0, .ref 196), (1, .ref t1), (2, .int v2), (3, .int x2), (4, .int (v4 + 1))] dX0_guestsLeft_32 4 rfl rfl (by decide) rfl ?_
        refine rw_goto 35 5 dX0_guestsLeft_35 (by decide) ?_
        exact ih x2 (v4 + 1) h
set_option maxRecDepth 100000 in
theorem wX0_guestsLeft (t1 : Nat) (ht1 : okX7 Rf0 NF t1) (a2 : Int32) (μ : Mem) {res : Int32} (h : fX0_guestsLeft t1 a2 μ = some res) : Ct mX0_guestsLeft 3 NF NF [.ref 196, .ref t1, .int a2] (μ, Rf0, NF) (QN (some (.int res)) μ Rf0 NF) := by
  unfold fX0_guestsLeft at h
  show RW mX0_guestsLeft 3 NF NF 0 [(0, .ref 196), (1, .ref t1), (2, .int a2)] [] (μ, Rf0, NF) (QN (some (.int res)) μ Rf0 NF)
  refine rw_iconst 0 (v := 0) dX0_guestsLeft_0 (by decide) ?_
  refine rw_istore_n 1 [(0, .ref 196), (1, .ref t1), (2, .int a2), (3, .int 0)] dX0_guestsLeft_1 (by decide) rfl ?_
  refine rw_iconst 2 (v := 0) dX0_guestsLeft_2 (by decide) ?_
  refine rw_istore 3 [(0, .ref 196), (1, .ref t1), (2, .int a2), (3, .int 0), (4, .int 0)] dX0_guestsLeft_3 (by decide) rfl ?_
  refine wX0_guestsLeft_5 t1 ht1 a2 μ _ (fun y3 h => ?_) FU 0 0 h
  refine rw_iload_n 38 dX0_guestsLeft_38 0 rfl ?_
  exact rn_iret 39 dX0_guestsLeft_39 rfl h
def fX10_whose (a1 : Int32) (a2 : Int32) (μ : Mem) : Option (Int32) :=
  if a1 < 0 then
    some (-1)
  else
    if (μ.1 196 0) < a1 then
      some (-1)
    else
      (fX10_isOneOfTwo a2 μ).bind fun q1 =>
      if q1 = true then
        (fX0_guestsLeft 199 a1 μ).bind fun q2 =>
        if a2 = 0 then
          (fJ6_bitCount_0f7a4 q2 μ).bind fun q3 =>
          some q3
        else
          some q2
      else
        some (-1)
set_option maxRecDepth 100000 in
theorem wX10_whose (a1 : Int32) (a2 : Int32) (μ : Mem) {res : Int32} (h : fX10_whose a1 a2 μ = some res) : Ct mX10_whose 4 NF NF [.ref 0, .int a1, .int a2] (μ, Rf0, NF) (QN (some (.int res)) μ Rf0 NF) := by
  unfold fX10_whose at h
  show RW mX10_whose 4 NF NF 0 [(0, .ref 0), (1, .int a1), (2, .int a2)] [] (μ, Rf0, NF) (QN (some (.int res)) μ Rf0 NF)
  refine rw_iload_n 0 dX10_whose_0 1 rfl ?_
  refine rn_if_lt 1 23 dX10_whose_1 (by decide) h (fun _ h => ?_) (fun _ h => ?_)
  · refine rw_iconst 23 (v := -1) dX10_whose_23 (by decide) ?_
    exact rn_iret 24 dX10_whose_24 rfl h
  · refine rw_iload_n 4 dX10_whose_4 1 rfl ?_
    refine rw_aload_n 5 dX10_whose_5 0 rfl ?_
    refine rw_getR 6 10 8 kc10 dX10_whose_6 ly_0 rln_0 fX10_61 rfl rf_0_8 ?_
    refine rw_getI 9 0 0 kc0 dX10_whose_9 ly_196 rln_196 fX10_103 rfl ?_
    refine rn_icmp_gt 12 23 dX10_whose_12 (by decide) h (fun _ h => ?_) (fun _ h => ?_)
    · refine rw_iconst 23 (v := -1) dX10_whose_23 (by decide) ?_
      exact rn_iret 24 dX10_whose_24 rfl h
    · refine rw_aload_n 15 dX10_whose_15 0 rfl ?_
      refine rw_iload_n 16 dX10_whose_16 2 rfl ?_
      refine rn_cVpb 17 10 [.int a2] dX10_whose_17 caX10_isOneOfTwo lX10_199 inX10_isOneOfTwo slX10_isOneOfTwo rfl ly_0 ⟨_, rfl, rfl⟩ rln_0 naX10_isOneOfTwo (Nat.le_of_ble_eq_true rfl) (Nat.le_of_ble_eq_true rfl) (by decide) (fun _ hq => wX10_isOneOfTwo a2 μ hq) h (fun q1 h => ?_)
      refine rn_ifb_ne 20 25 dX10_whose_20 (by decide) h (fun _ h => ?_) (fun _ h => ?_)
      · refine rw_aload_n 25 dX10_whose_25 0 rfl ?_
        refine rw_getR 26 10 8 kc10 dX10_whose_26 ly_0 rln_0 fX10_61 rfl rf_0_8 ?_
        refine rw_aload_n 29 dX10_whose_29 0 rfl ?_
        refine rw_getR 30 10 9 kc10 dX10_whose_30 ly_0 rln_0 fX10_68 rfl rf_0_9 ?_
        refine rw_iload_n 33 dX10_whose_33 1 rfl ?_
        refine rn_cVpi 34 0 [.ref 199, .int a1] dX10_whose_34 caX0_guestsLeft lX10_283 inX0_guestsLeft slX0_guestsLeft rfl ly_196 ⟨_, rfl, rfl⟩ rln_196 naX0_guestsLeft (Nat.le_of_ble_eq_true rfl) (Nat.le_of_ble_eq_true rfl) (by decide) (fun _ hq => wX0_guestsLeft 199 okX7_199 a1 μ hq) h (fun q2 h => ?_)
        refine rw_istore_n 37 [(0, .ref 0), (1, .int a1), (2, .int a2), (3, .int q2)] dX10_whose_37 (by decide) rfl ?_
        refine rw_iload_n 38 dX10_whose_38 2 rfl ?_
        refine rn_if_ne 39 49 dX10_whose_39 (by decide) h (fun _ h => ?_) (fun _ h => ?_)
        · refine rw_iload_n 49 dX10_whose_49 3 rfl ?_
          exact rn_iret 50 dX10_whose_50 rfl h
        · refine rw_iload_n 42 dX10_whose_42 3 rfl ?_
          refine rn_cSpi 43 [.int q2] dX10_whose_43 caJ6_bitCount_0f7a4 lX10_243 stJ6_bitCount_0f7a4 rfl naJ6_bitCount_0f7a4 (Nat.le_of_ble_eq_true rfl) (Nat.le_of_ble_eq_true rfl) (by decide) (fun _ hq => wJ6_bitCount_0f7a4 q2 μ hq) h (fun q3 h => ?_)
          refine rw_goto 46 50 dX10_whose_46 (by decide) ?_
          exact rn_iret 50 dX10_whose_50 rfl h
      · refine rw_iconst 23 (v := -1) dX10_whose_23 (by decide) ?_
        exact rn_iret 24 dX10_whose_24 rfl h
def fX0_seenAt_5 (t0 : Nat)  (v1 : Int32) (v2 : Int32) (μ : Mem) (K : Int32 → Option (Int32)) : Nat → Int32 → Int32 → Option (Int32)
  | 0, _, _ => none
  | n + 1, v3, v4 =>
    if v4 < (μ.1 t0 3) then
      if ((v1 >>> (v4 &&& 31)) &&& 1) = 1 then
        (fX7_isThere t0 v4 v2 μ).bind fun q1 =>
        if q1 = true then
          fX0_seenAt_5 t0 v1 v2 μ K n (v3 + 1) (v4 + 1)
        else
          fX0_seenAt_5 t0 v1 v2 μ K n v3 (v4 + 1)
      else
        fX0_seenAt_5 t0 v1 v2 μ K n v3 (v4 + 1)
    else
      K v3
def fX0_seenAt (t0 : Nat) (a1 : Int32) (a2 : Int32) (μ : Mem) : Option (Int32) :=
  fX0_seenAt_5 t0 a1 a2 μ (fun y2 =>
      some y2
  ) FU 0 0
set_option maxRecDepth 100000 in
theorem wX0_seenAt_5 (t0 : Nat) (ht0 : okX7 Rf0 NF t0)  (v1 : Int32) (v2 : Int32) (μ : Mem) (K : Int32 → Option (Int32)) {res : Int32} (hK : ∀ (v3 : Int32), K v3 = some res → RW mX0_seenAt 2 NF NF 43 [(3, .int v3)] [] (μ, Rf0, NF) (QN (some (.int res)) μ Rf0 NF)) : ∀ (n9 : Nat) (v3 : Int32) (v4 : Int32), fX0_seenAt_5 t0 v1 v2 μ K n9 v3 v4 = some res → RW mX0_seenAt 2 NF NF 5 [(0, .ref t0), (1, .int v1), (2, .int v2), (3, .int v3), (4, .int v4)] [] (μ, Rf0, NF) (QN (some (.int res)) μ Rf0 NF) := by
  intro n9
  induction n9 with
  | zero => intro _ _ h; cases h
  | succ n ih =>
    intro v3 v4 h
    unfold fX0_seenAt_5 at h
    refine rw_iload 5 dX0_seenAt_5 4 rfl ?_
    refine rw_aload_n 7 dX0_seenAt_7 0 rfl ?_
    refine rw_getI 8 7 3 kc7 dX0_seenAt_8 (o7l ht0) (o7n ht0) fX0_23 rfl ?_
    refine rn_icmp_ge 11 43 dX0_seenAt_11 (by decide) h (fun _ h => ?_) (fun _ h => ?_)
    · refine rw_pick 43 [3] rfl ?_
      exact hK v3 h
    · refine rw_iload_n 14 dX0_seenAt_14 1 rfl ?_
      refine rw_iload 15 dX0_seenAt_15 4 rfl ?_
      refine rw_ishr 17 dX0_seenAt_17 ?_
      refine rw_iconst 18 (v := 1) dX0_seenAt_18 (by decide) ?_
      refine rw_iand 19 dX0_seenAt_19 ?_
      refine rw_iconst 20 (v := 1) dX0_seenAt_20 (by decide) ?_
      refine rn_icmp_ne 21 37 dX0_seenAt_21 (by decide) h (fun _ h => ?_) (fun _ h => ?_)
      · refine rw_iinc 37 [(0, .ref t0), (1, .int v1), (2, .int v2), (3, .int v3), (4, .int (v4 + 1))] dX0_seenAt_37 4 rfl rfl (by decide) rfl ?_
        refine rw_goto 40 5 dX0_seenAt_40 (by decide) ?_
        exact ih v3 (v4 + 1) h
      · refine rw_aload_n 24 dX0_seenAt_24 0 rfl ?_
        refine rw_iload 25 dX0_seenAt_25 4 rfl ?_
        refine rw_iload_n 27 dX0_seenAt_27 2 rfl ?_
        refine rn_cVpb 28 7 [.int v4, .int v2] dX0_seenAt_28 caX7_isThere lX0_32 inX7_isThere slX7_isThere rfl (o7l ht0) ⟨_, rfl, rfl⟩ (o7n ht0) naX7_isThere (Nat.le_of_ble_eq_true rfl) (Nat.le_of_ble_eq_true rfl) (by decide) (fun _ hq => wX7_isThere t0 ht0 v4 v2 μ hq) h (fun q1 h => ?_)
        refine rn_ifb_eq 31 37 dX0_seenAt_31 (by decide) h (fun _ h => ?_) (fun _ h => ?_)
        · refine rw_iinc 37 [(0, .ref t0), (1, .int v1), (2, .int v2), (3, .int v3), (4, .int (v4 + 1))] dX0_seenAt_37 4 rfl rfl (by decide) rfl ?_
          refine rw_goto 40 5 dX0_seenAt_40 (by decide) ?_
          exact ih v3 (v4 + 1) h
        · refine rw_iinc 34 [(0, .ref t0), (1, .int v1), (2, .int v2), (3, .int (v3 + 1)), (4, .int v4)] dX0_seenAt_34 3 rfl rfl (by decide) rfl ?_
          refine rw_iinc 37 [(0, .ref t0), (1, .int v1), (2, .int v2), (3, .int (v3 + 1)), (4, .int (v4 + 1))] dX0_seenAt_37 4 rfl rfl (by decide) rfl ?_
          refine rw_goto 40 5 dX0_seenAt_40 (by decide) ?_
          exact ih (v3 + 1) (v4 + 1) h
set_option maxRecDepth 100000 in
theorem wX0_seenAt (t0 : Nat) (ht0 : okX7 Rf0 NF t0) (a1 : Int32) (a2 : Int32) (μ : Mem) {res : Int32} (h : fX0_seenAt t0 a1 a2 μ = some res) : Ct mX0_seenAt 2 NF NF [.ref t0, .int a1, .int a2] (μ, Rf0, NF) (QN (some (.int res)) μ Rf0 NF) := by
  unfold fX0_seenAt at h
  show RW mX0_seenAt 2 NF NF 0 [(0, .ref t0), (1, .int a1), (2, .int a2)] [] (μ, Rf0, NF) (QN (some (.int res)) μ Rf0 NF)
  refine rw_iconst 0 (v := 0) dX0_seenAt_0 (by decide) ?_
  refine rw_istore_n 1 [(0, .ref t0), (1, .int a1), (2, .int a2), (3, .int 0)] dX0_seenAt_1 (by decide) rfl ?_
  refine rw_iconst 2 (v := 0) dX0_seenAt_2 (by decide) ?_
  refine rw_istore 3 [(0, .ref t0), (1, .int a1), (2, .int a2), (3, .int 0), (4, .int 0)] dX0_seenAt_3 (by decide) rfl ?_
  refine wX0_seenAt_5 t0 ht0 a1 a2 μ _ (fun y2 h => ?_) FU 0 0 h
  refine rw_iload_n 43 dX0_seenAt_43 0 rfl ?_
  exact rn_iret 44 dX0_seenAt_44 rfl h
def fX0_hourToLook_9 (t1 : Nat)  (v2 : Int32) (μ : Mem) (K : Int32 → Option (Int32)) : Nat → Int32 → Int32 → Int32 → Option (Int32)
  | 0, _, _, _ => none
  | n + 1, v3, v4, v5 =>
    if v5 < 24 then
      (fX0_seenAt t1 v2 v5 μ).bind fun q1 =>
      (fJ6_bitCount_0f7a4 v2 μ).bind fun q2 =>
      nm (mxI q1 (q2 - q1)) fun x3 =>
      if x3 < v4 then
        fX0_hourToLook_9 t1 v2 μ K n v5 x3 (v5 + 1)
      else
        fX0_hourToLook_9 t1 v2 μ K n v3 v4 (v5 + 1)
    else
      K v3
def fX0_hourToLook (t1 : Nat) (a2 : Int32) (μ : Mem) : Option (Int32) :=
  fX0_hourToLook_9 t1 a2 μ (fun y4 =>
      some y4
  ) FU 0 8 0
set_option maxRecDepth 100000 in
theorem wX0_hourToLook_9 (t1 : Nat) (ht1 : okX7 Rf0 NF t1)  (v2 : Int32) (μ : Mem) (K : Int32 → Option (Int32)) {res : Int32} (hK : ∀ (v3 : Int32), K v3 = some res → RW mX0_hourToLook 3 NF NF 59 [(3, .int v3)] [] (μ, Rf0, NF) (QN (some (.int res)) μ Rf0 NF)) : ∀ (n9 : Nat) (v3 : Int32) (v4 : Int32) (v5 : Int32), fX0_hourToLook_9 t1 v2 μ K n9 v3 v4 v5 = some res → RW mX0_hourToLook 3 NF NF 9 [(1, .ref t1), (2, .int v2), (3, .int v3), (4, .int v4), (5, .int v5)] [] (μ, Rf0, NF) (QN (some (.int res)) μ Rf0 NF) := by
  intro n9
  induction n9 with
  | zero => intro _ _ _ h; cases h
  | succ n ih =>
    intro v3 v4 v5 h
    unfold fX0_hourToLook_9 at h
    refine rw_iload 9 dX0_hourToLook_9 4 rfl ?_
    refine rw_bipush 11 (v := 24) dX0_hourToLook_11 (by decide) ?_
    refine rn_icmp_ge 13 59 dX0_hourToLook_13 (by decide) h (fun _ h => ?_) (fun _ h => ?_)
    · refine rw_pick 59 [2] rfl ?_
      exact hK v3 h
    · refine rw_aload_n 16 dX0_hourToLook_16 0 rfl ?_
      refine rw_iload_n 17 dX0_hourToLook_17 1 rfl ?_
      refine rw_iload 18 dX0_hourToLook_18 4 rfl ?_
      refine rn_cSpi 20 [.ref t1, .int v2, .int v5] dX0_hourToLook_20 caX0_seenAt lX0_36 stX0_seenAt rfl naX0_seenAt (Nat.le_of_ble_eq_true rfl) (Nat.le_of_ble_eq_true rfl) (by decide) (fun _ hq => wX0_seenAt t1 ht1 v2 v5 μ hq) h (fun q1 h => ?_)
      refine rw_istore 23 [(1, .ref t1), (2, .int v2), (3, .int v3), (4, .int v4), (5, .int v5), (6, .int q1)] dX0_hourToLook_23 (by decide) rfl ?_
      refine rw_iload 25 dX0_hourToLook_25 5 rfl ?_
      refine rw_iload_n 27 dX0_hourToLook_27 1 rfl ?_
      refine rn_cSpi 28 [.int v2] dX0_hourToLook_28 caJ6_bitCount_0f7a4 lX0_40 stJ6_bitCount_0f7a4 rfl naJ6_bitCount_0f7a4 (Nat.le_of_ble_eq_true rfl) (Nat.le_of_ble_eq_true rfl) (by decide) (fun _ hq => wJ6_bitCount_0f7a4 v2 μ hq) h (fun q2 h => ?_)
      refine rw_iload 31 dX0_hourToLook_31 5 rfl ?_
      refine rw_isub 33 dX0_hourToLook_33 ?_
      refine rw_mmax 34 dX0_hourToLook_34 lX0_46 stJ9_max_7cf53 iiJ9_max_7cf53 coJ9_max_7cf53 (by decide) (Nat.le_of_ble_eq_true rfl) ?_
      refine rn_ist 37 (fun x3 => [(1, .ref t1), (2, .int v2), (3, .int v3), (4, .int v4), (5, .int v5), (6, .int q1), (7, .int x3)]) dX0_hourToLook_37 (by decide) (fun _ => rfl) h (fun x3 h => ?_)
      refine rw_iload 39 dX0_hourToLook_39 6 rfl ?_
      refine rw_iload 41 dX0_hourToLook_41 3 rfl ?_
      refine rn_icmp_ge 43 53 dX0_hourToLook_43 (by decide) h (fun _ h => ?_) (fun _ h => ?_)
      · refine rw_iinc 53 [(1, .ref t1), (2, .int v2), (3, .int v3), (4, .int v4), (5, .int (v5 + 1)), (6, .int q1), (7, .int x3)] dX0_hourToLook_53 4 rfl rfl (by decide) rfl ?_
        refine rw_goto 56 9 dX0_hourToLook_56 (by decide) ?_
        refine rw_pick 9 [0, 1, 2, 3, 4] rfl ?_
        exact ih v3 v4 (v5 + 1) h
      · refine rw_iload 46 dX0_hourToLook_46 6 rfl ?_
        refine rw_istore 48 [(1, .ref t1), (2, .int v2), (3, .int v3), (4, .int x3), (5, .int v5), (6, .int q1), (7, .int x3)] dX0_hourToLook_48 (by decide) rfl ?_
        refine rw_iload 50 dX0_hourToLook_50 4 rfl ?_
        refine rw_istore_n 52 [(1, .ref t1), (2, .int v2), (3, .int v5), (4, .int x3), (5, .int v5), (6, .int q1), (7, .int x3)] dX0_hourToLook_52 (by decide) rfl ?_
        refine rw_iinc 53 [(1, .ref t1), (2, .int v2), (3, .int v5), (4, .int x3), (5, .int (v5 + 1)), (6, .int q1), (7, .int x3)] dX0_hourToLook_53 4 rfl rfl (by decide) rfl ?_
        refine rw_goto 56 9 dX0_hourToLook_56 (by decide) ?_
        refine rw_pick 9 [0, 1, 2, 3, 4] rfl ?_
        exact ih v5 x3 (v5 + 1) h
set_option maxRecDepth 100000 in
theorem wX0_hourToLook (t1 : Nat) (ht1 : okX7 Rf0 NF t1) (a2 : Int32) (μ : Mem) {res : Int32} (h : fX0_hourToLook t1 a2 μ = some res) : Ct mX0_hourToLook 3 NF NF [.ref 196, .ref t1, .int a2] (μ, Rf0, NF) (QN (some (.int res)) μ Rf0 NF) := by
  unfold fX0_hourToLook at h
  show RW mX0_hourToLook 3 NF NF 0 [(0, .ref 196), (1, .ref t1), (2, .int a2)] [] (μ, Rf0, NF) (QN (some (.int res)) μ Rf0 NF)
  refine rw_iconst 0 (v := 0) dX0_hourToLook_0 (by decide) ?_
  refine rw_istore_n 1 [(0, .ref 196), (1, .ref t1), (2, .int a2), (3, .int 0)] dX0_hourToLook_1 (by decide) rfl ?_
  refine rw_bipush 2 (v := 8) dX0_hourToLook_2 (by decide) ?_
  refine rw_istore 4 [(0, .ref 196), (1, .ref t1), (2, .int a2), (3, .int 0), (4, .int 8)] dX0_hourToLook_4 (by decide) rfl ?_
  refine rw_iconst 6 (v := 0) dX0_hourToLook_6 (by decide) ?_
  refine rw_istore 7 [(0, .ref 196), (1, .ref t1), (2, .int a2), (3, .int 0), (4, .int 8), (5, .int 0)] dX0_hourToLook_7 (by decide) rfl ?_
  refine rw_pick 9 [1, 2, 3, 4, 5] rfl ?_
  refine wX0_hourToLook_9 t1 ht1 a2 μ _ (fun y4 h => ?_) FU 0 8 0 h
  refine rw_iload_n 59 dX0_hourToLook_59 0 rfl ?_
  exact rn_iret 60 dX0_hourToLook_60 rfl h
def fX10_look (a1 : Int32) (μ : Mem) : Option (Int32) :=
  if a1 < 0 then
    some (-1)
  else
    if (μ.1 196 0) < a1 then
      some (-1)
    else
      (fX0_guestsLeft 199 a1 μ).bind fun q1 =>
      if q1 = 0 then
        some (-2)
      else
        (fX0_hourToLook 199 q1 μ).bind fun q2 =>
        some q2
set_option maxRecDepth 100000 in
theorem wX10_look (a1 : Int32) (μ : Mem) {res : Int32} (h : fX10_look a1 μ = some res) : Ct mX10_look 4 NF NF [.ref 0, .int a1] (μ, Rf0, NF) (QN (some (.int res)) μ Rf0 NF) := by
  unfold fX10_look at h
  show RW mX10_look 4 NF NF 0 [(0, .ref 0), (1, .int a1)] [] (μ, Rf0, NF) (QN (some (.int res)) μ Rf0 NF)
  refine rw_iload_n 0 dX10_look_0 1 rfl ?_
  refine rn_if_lt 1 15 dX10_look_1 (by decide) h (fun _ h => ?_) (fun _ h => ?_)
  · refine rw_iconst 15 (v := -1) dX10_look_15 (by decide) ?_
    exact rn_iret 16 dX10_look_16 rfl h
  · refine rw_iload_n 4 dX10_look_4 1 rfl ?_
    refine rw_aload_n 5 dX10_look_5 0 rfl ?_
    refine rw_getR 6 10 8 kc10 dX10_look_6 ly_0 rln_0 fX10_61 rfl rf_0_8 ?_
    refine rw_getI 9 0 0 kc0 dX10_look_9 ly_196 rln_196 fX10_103 rfl ?_
    refine rn_icmp_le 12 17 dX10_look_12 (by decide) h (fun _ h => ?_) (fun _ h => ?_)
    · refine rw_aload_n 17 dX10_look_17 0 rfl ?_
      refine rw_getR 18 10 8 kc10 dX10_look_18 ly_0 rln_0 fX10_61 rfl rf_0_8 ?_
      refine rw_aload_n 21 dX10_look_21 0 rfl ?_
      refine rw_getR 22 10 9 kc10 dX10_look_22 ly_0 rln_0 fX10_68 rfl rf_0_9 ?_
      refine rw_iload_n 25 dX10_look_25 1 rfl ?_
      refine rn_cVpi 26 0 [.ref 199, .int a1] dX10_look_26 caX0_guestsLeft lX10_283 inX0_guestsLeft slX0_guestsLeft rfl ly_196 ⟨_, rfl, rfl⟩ rln_196 naX0_guestsLeft (Nat.le_of_ble_eq_true rfl) (Nat.le_of_ble_eq_true rfl) (by decide) (fun _ hq => wX0_guestsLeft 199 okX7_199 a1 μ hq) h (fun q1 h => ?_)
      refine rw_istore_n 29 [(0, .ref 0), (1, .int a1), (2, .int q1)] dX10_look_29 (by decide) rfl ?_
      refine rw_iload_n 30 dX10_look_30 2 rfl ?_
      refine rn_if_ne 31 39 dX10_look_31 (by decide) h (fun _ h => ?_) (fun _ h => ?_)
      · refine rw_aload_n 39 dX10_look_39 0 rfl ?_
        refine rw_getR 40 10 8 kc10 dX10_look_40 ly_0 rln_0 fX10_61 rfl rf_0_8 ?_
        refine rw_aload_n 43 dX10_look_43 0 rfl ?_
        refine rw_getR 44 10 9 kc10 dX10_look_44 ly_0 rln_0 fX10_68 rfl rf_0_9 ?_
        refine rw_iload_n 47 dX10_look_47 2 rfl ?_
        refine rn_cVpi 48 0 [.ref 199, .int q1] dX10_look_48 caX0_hourToLook lX10_286 inX0_hourToLook slX0_hourToLook rfl ly_196 ⟨_, rfl, rfl⟩ rln_196 naX0_hourToLook (Nat.le_of_ble_eq_true rfl) (Nat.le_of_ble_eq_true rfl) (by decide) (fun _ hq => wX0_hourToLook 199 okX7_199 q1 μ hq) h (fun q2 h => ?_)
        exact rn_iret 51 dX10_look_51 rfl h
      · refine rw_bipush 34 (v := -2) dX10_look_34 (by decide) ?_
        refine rw_goto 36 51 dX10_look_36 (by decide) ?_
        exact rn_iret 51 dX10_look_51 rfl h
    · refine rw_iconst 15 (v := -1) dX10_look_15 (by decide) ?_
      exact rn_iret 16 dX10_look_16 rfl h
