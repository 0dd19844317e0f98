def fX1_ofSunday (a1 : Int32) (t2 : Nat) (t3 : Nat) (a4 : Int32) (μ : Mem) : Option (Int32 × Mem) :=
  (fX1_setSunday t2 t3 a4 μ).bind fun q1 =>
  nm (wI q1 181 0 0) fun μ2 =>
  if inb a4 4 then
  (fX7_hoursOf t2 (μ2.1 (t3 + 1) a4.toNatClampNeg) μ2).bind fun q3 =>
  nm (wI μ2 181 1 q3) fun μ4 =>
  nm (wI μ4 181 2 0) fun μ5 =>
  nm (wI μ5 181 3 0) fun μ6 =>
  nm (wI μ6 181 7 a4) fun μ7 =>
  if inb a4 4 then
  (fJ6_bitCount_0f7a4 (μ7.1 (t3 + 1) a4.toNatClampNeg) μ7).bind fun q8 =>
  nm (wI μ7 181 8 q8) fun μ9 =>
  (fX1_answerHeld (t2 + 6) a1 μ9).bind fun q10 =>
  some (q10.1, q10.2)
  else none
  else none
set_option maxRecDepth 100000 in
theorem wX1_ofSunday (a1 : Int32) (t2 : Nat) (ht2 : okX7 Rf0 NF t2) (t3 : Nat) (ht3 : okX5 Rf0 NF t3) (a4 : Int32) (μ : Mem) {res : Int32 × Mem} (h : fX1_ofSunday a1 t2 t3 a4 μ = some res) : Ct mX1_ofSunday 4 NF NF [.ref 180, .int a1, .ref t2, .ref t3, .int a4] (μ, Rf0, NF) (QN (some (.int res.1)) res.2 Rf0 NF) := by
  unfold fX1_ofSunday at h
  show RW mX1_ofSunday 4 NF NF 0 [(0, .ref 180), (1, .int a1), (2, .ref t2), (3, .ref t3), (4, .int a4)] [] (μ, Rf0, NF) (QN (some (.int res.1)) res.2 Rf0 NF)
  refine rw_aload_n 0 dX1_ofSunday_0 0 rfl ?_
  refine rw_aload_n 1 dX1_ofSunday_1 2 rfl ?_
  refine rw_aload_n 2 dX1_ofSunday_2 3 rfl ?_
  refine rw_iload 3 dX1_ofSunday_3 4 rfl ?_
  refine rn_cVmv 5 1 [.ref t2, .ref t3, .int a4] dX1_ofSunday_5 caX1_setSunday lX1_38 inX1_setSunday slX1_setSunday rfl ly_180 ⟨_, rfl, rfl⟩ rln_180 naX1_setSunday (Nat.le_of_ble_eq_true rfl) (Nat.le_of_ble_eq_true rfl) (by decide) (fun _ hq => wX1_setSunday t2 ht2 t3 ht3 a4 μ hq) h (fun q1 h => ?_)
  refine rw_aload_n 8 dX1_ofSunday_8 0 rfl ?_
  refine rw_getR 9 1 0 kc1 dX1_ofSunday_9 ly_180 rln_180 fX1_9 rfl rf_180_0 ?_
  refine rw_iconst 12 (v := 0) dX1_ofSunday_12 (by decide) ?_
  refine rw_iconst 13 (v := 0) dX1_ofSunday_13 (by decide) ?_
  refine rn_iastc 14 dX1_ofSunday_14 ly_181 rln_181 (by decide) (j := 0) (by decide) h (fun μ2 h => ?_)
  refine rw_aload_n 15 dX1_ofSunday_15 0 rfl ?_
  refine rw_getR 16 1 0 kc1 dX1_ofSunday_16 ly_180 rln_180 fX1_9 rfl rf_180_0 ?_
  refine rw_iconst 19 (v := 1) dX1_ofSunday_19 (by decide) ?_
  refine rw_aload_n 20 dX1_ofSunday_20 2 rfl ?_
  refine rw_aload_n 21 dX1_ofSunday_21 3 rfl ?_
  refine rw_getR 22 5 4 kc5 dX1_ofSunday_22 (o5l ht3) (o5n ht3) fX1_26 rfl (o5r4 ht3) ?_
  refine rw_iload 25 dX1_ofSunday_25 4 rfl ?_
  refine rn_iald 27 dX1_ofSunday_27 (o5l4 ht3) (o5n4 ht3) h (fun h => ?_)
  refine rn_cVpi 28 7 [.int (μ2.1 (t3 + 1) a4.toNatClampNeg)] dX1_ofSunday_28 caX7_hoursOf lX1_64 inX7_hoursOf slX7_hoursOf rfl (o7l ht2) ⟨_, rfl, rfl⟩ (o7n ht2) naX7_hoursOf (Nat.le_of_ble_eq_true rfl) (Nat.le_of_ble_eq_true rfl) (by decide) (fun _ hq => wX7_hoursOf t2 ht2 (μ2.1 (t3 + 1) a4.toNatClampNeg) μ2 hq) h (fun q3 h => ?_)
  refine rn_iastc 31 dX1_ofSunday_31 ly_181 rln_181 (by decide) (j := 1) (by decide) h (fun μ4 h => ?_)
  refine rw_aload_n 32 dX1_ofSunday_32 0 rfl ?_
  refine rw_getR 33 1 0 kc1 dX1_ofSunday_33 ly_180 rln_180 fX1_9 rfl rf_180_0 ?_
  refine rw_iconst 36 (v := 2) dX1_ofSunday_36 (by decide) ?_
  refine rw_iconst 37 (v := 0) dX1_ofSunday_37 (by decide) ?_
  refine rn_iastc 38 dX1_ofSunday_38 ly_181 rln_181 (by decide) (j := 2) (by decide) h (fun μ5 h => ?_)
  refine rw_aload_n 39 dX1_ofSunday_39 0 rfl ?_
  refine rw_getR 40 1 0 kc1 dX1_ofSunday_40 ly_180 rln_180 fX1_9 rfl rf_180_0 ?_
  refine rw_iconst 43 (v := 3) dX1_ofSunday_43 (by decide) ?_
  refine rw_iconst 44 (v := 0) dX1_ofSunday_44 (by decide) ?_
  refine rn_iastc 45 dX1_ofSunday_45 ly_181 rln_181 (by decide) (j := 3) (by decide) h (fun μ6 h => ?_)
  refine rw_aload_n 46 dX1_ofSunday_46 0 rfl ?_
  refine rw_getR 47 1 0 kc1 dX1_ofSunday_47 ly_180 rln_180 fX1_9 rfl rf_180_0 ?_
  refine rw_bipush 50 (v := 7) dX1_ofSunday_50 (by decide) ?_
  refine rw_iload 52 dX1_ofSunday_52 4 rfl ?_
  refine rn_iastc 54 dX1_ofSunday_54 ly_181 rln_181 (by decide) (j := 7) (by decide) h (fun μ7 h => ?_)
  refine rw_aload_n 55 dX1_ofSunday_55 0 rfl ?_
  refine rw_getR 56 1 0 kc1 dX1_ofSunday_56 ly_180 rln_180 fX1_9 rfl rf_180_0 ?_
  refine rw_bipush 59 (v := 8) dX1_ofSunday_59 (by decide) ?_
  refine rw_aload_n 61 dX1_ofSunday_61 3 rfl ?_
  refine rw_getR 62 5 4 kc5 dX1_ofSunday_62 (o5l ht3) (o5n ht3) fX1_26 rfl (o5r4 ht3) ?_
  refine rw_iload 65 dX1_ofSunday_65 4 rfl ?_
  refine rn_iald 67 dX1_ofSunday_67 (o5l4 ht3) (o5n4 ht3) h (fun h => ?_)
  refine rn_cSpi 68 [.int (μ7.1 (t3 + 1) a4.toNatClampNeg)] dX1_ofSunday_68 caJ6_bitCount_0f7a4 lX1_29 stJ6_bitCount_0f7a4 rfl naJ6_bitCount_0f7a4 (Nat.le_of_ble_eq_true rfl) (Nat.le_of_ble_eq_true rfl) (by decide) (fun _ hq => wJ6_bitCount_0f7a4 (μ7.1 (t3 + 1) a4.toNatClampNeg) μ7 hq) h (fun q8 h => ?_)
  refine rn_iastc 71 dX1_ofSunday_71 ly_181 rln_181 (by decide) (j := 8) (by decide) h (fun μ9 h => ?_)
  refine rw_aload_n 72 dX1_ofSunday_72 0 rfl ?_
  refine rw_aload_n 73 dX1_ofSunday_73 2 rfl ?_
  refine rw_getR 74 7 10 kc7 dX1_ofSunday_74 (o7l ht2) (o7n ht2) fX1_56 rfl (o7r10 ht2) ?_
  refine rw_iload_n 77 dX1_ofSunday_77 1 rfl ?_
  refine rn_cVmi 78 1 [.ref (t2 + 6), .int a1] dX1_ofSunday_78 caX1_answerHeld lX1_60 inX1_answerHeld slX1_answerHeld rfl ly_180 ⟨_, rfl, rfl⟩ rln_180 naX1_answerHeld (Nat.le_of_ble_eq_true rfl) (Nat.le_of_ble_eq_true rfl) (by decide) (fun _ hq => wX1_answerHeld (t2 + 6) (o7k10 ht2) a1 μ9 hq) h (fun q10 h => ?_)
  exact rn_iret2 81 dX1_ofSunday_81 rfl h
def fX10_sunday (a1 : Int32) (a2 : Int32) (μ : Mem) : Option (Int32 × Mem) :=
  (fX10_isSunday a1 μ).bind fun q1 =>
  if q1 = true then
    if a2 = 0 then
      if inb a1 4 then
      some ((μ.1 200 a1.toNatClampNeg), μ)
      else none
    else
    if a2 = 1 then
      if inb a1 4 then
      some ((μ.1 201 a1.toNatClampNeg), μ)
      else none
    else
    if a2 = 2 then
      if inb a1 4 then
      some ((μ.1 11 a1.toNatClampNeg), μ)
      else none
    else
    if a2 = 3 then
      (fX5_isSold 9 a1 μ).bind fun q6 =>
      if q6 = true then
        some (1, μ)
      else
        some (0, μ)
    else
    if a2 = 4 then
      if inb a1 4 then
      some ((μ.1 10 a1.toNatClampNeg), μ)
      else none
    else
    if a2 = 5 then
      if inb a1 4 then
      if (μ.1 10 a1.toNatClampNeg) = 0 then
        some (0, μ)
      else
        (fX1_ofSunday 2 199 9 a1 μ).bind fun q9 =>
        some (q9.1, q9.2)
      else none
    else
    if a2 = 6 then
      (fX1_ofSunday 3 199 9 a1 μ).bind fun q11 =>
      some (q11.1, q11.2)
    else
      some ((-1), μ)
  else
    some ((-1), μ)
set_option maxRecDepth 100000 in
theorem wX10_sunday (a1 : Int32) (a2 : Int32) (μ : Mem) {res : Int32 × Mem} (h : fX10_sunday a1 a2 μ = some res) : Ct mX10_sunday 5 NF NF [.ref 0, .int a1, .int a2] (μ, Rf0, NF) (QN (some (.int res.1)) res.2 Rf0 NF) := by
  unfold fX10_sunday at h
  show RW mX10_sunday 5 NF NF 0 [(0, .ref 0), (1, .int a1), (2, .int a2)] [] (μ, Rf0, NF) (QN (some (.int res.1)) res.2 Rf0 NF)
  refine rw_aload_n 0 dX10_sunday_0 0 rfl ?_
  refine rw_iload_n 1 dX10_sunday_1 1 rfl ?_
  refine rn_cVpb 2 10 [.int a1] dX10_sunday_2 caX10_isSunday lX10_107 inX10_isSunday slX10_isSunday rfl ly_0 ⟨_, rfl, rfl⟩ rln_0 naX10_isSunday (Nat.le_of_ble_eq_true rfl) (Nat.le_of_ble_eq_true rfl) (by decide) (fun _ hq => wX10_isSunday a1 μ hq) h (fun q1 h => ?_)
  refine rn_ifb_ne 5 10 dX10_sunday_5 (by decide) h (fun _ h => ?_) (fun _ h => ?_)
  · refine rw_iload_n 10 dX10_sunday_10 2 rfl ?_
    rcases if_b h with ⟨c2, h⟩ | ⟨c2, h⟩
    · refine rn_tab 11 0 52 dX10_sunday_11 c2 (by decide) (by decide) rfl (by decide) ?_
      refine rw_aload_n 52 dX10_sunday_52 0 rfl ?_
      refine rw_getR 53 10 9 kc10 dX10_sunday_53 ly_0 rln_0 fX10_68 rfl rf_0_9 ?_
      refine rw_getR 56 7 1 kc7 dX10_sunday_56 ly_199 rln_199 fX10_110 rfl rf_199_1 ?_
      refine rw_iload_n 59 dX10_sunday_59 1 rfl ?_
      refine rn_iald 60 dX10_sunday_60 ly_200 rln_200 h (fun h => ?_)
      exact rn_iret2 61 dX10_sunday_61 rfl h
    · rcases if_b h with ⟨c3, h⟩ | ⟨c3, h⟩
      · refine rn_tab 11 1 62 dX10_sunday_11 c3 (by decide) (by decide) rfl (by decide) ?_
        refine rw_aload_n 62 dX10_sunday_62 0 rfl ?_
        refine rw_getR 63 10 9 kc10 dX10_sunday_63 ly_0 rln_0 fX10_68 rfl rf_0_9 ?_
        refine rw_getR 66 7 2 kc7 dX10_sunday_66 ly_199 rln_199 fX10_114 rfl rf_199_2 ?_
        refine rw_iload_n 69 dX10_sunday_69 1 rfl ?_
        refine rn_iald 70 dX10_sunday_70 ly_201 rln_201 h (fun h => ?_)
        exact rn_iret2 71 dX10_sunday_71 rfl h
      · rcases if_b h with ⟨c4, h⟩ | ⟨c4, h⟩
        · refine rn_tab 11 2 72 dX10_sunday_11 c4 (by decide) (by decide) rfl (by decide) ?_
          refine rw_aload_n 72 dX10_sunday_72 0 rfl ?_
          refine rw_getR 73 10 2 kc10 dX10_sunday_73 ly_0 rln_0 fX10_26 rfl rf_0_2 ?_
          refine rw_getR 76 5 5 kc5 dX10_sunday_76 ly_9 rln_9 fX10_117 rfl rf_9_5 ?_
          refine rw_iload_n 79 dX10_sunday_79 1 rfl ?_
          refine rn_iald 80 dX10_sunday_80 ly_11 rln_11 h (fun h => ?_)
          exact rn_iret2 81 dX10_sunday_81 rfl h
        · rcases if_b h with ⟨c5, h⟩ | ⟨c5, h⟩
          · refine rn_tab 11 3 82 dX10_sunday_11 c5 (by decide) (by decide) rfl (by decide) ?_
            refine rw_aload_n 82 dX10_sunday_82 0 rfl ?_
            refine rw_getR 83 10 2 kc10 dX10_sunday_83 ly_0 rln_0 fX10_26 rfl rf_0_2 ?_
            refine rw_iload_n 86 dX10_sunday_86 1 rfl ?_
            refine rn_cVpb 87 5 [.int a1] dX10_sunday_87 caX5_isSold lX10_120 inX5_isSold slX5_isSold rfl ly_9 ⟨_, rfl, rfl⟩ rln_9 naX5_isSold (Nat.le_of_ble_eq_true rfl) (Nat.le_of_ble_eq_true rfl) (by decide) (fun _ hq => wX5_isSold 9 okX5_9 a1 μ hq) h (fun q6 h => ?_)
            refine rn_ifb_eq 90 97 dX10_sunday_90 (by decide) h (fun _ h => ?_) (fun _ h => ?_)
            · refine rw_iconst 97 (v := 0) dX10_sunday_97 (by decide) ?_
              exact rn_iret2 98 dX10_sunday_98 rfl h
            · refine rw_iconst 93 (v := 1) dX10_sunday_93 (by decide) ?_
              refine rw_goto 94 98 dX10_sunday_94 (by decide) ?_
              exact rn_iret2 98 dX10_sunday_98 rfl h
          · rcases if_b h with ⟨c7, h⟩ | ⟨c7, h⟩
            · refine rn_tab 11 4 99 dX10_sunday_11 c7 (by decide) (by decide) rfl (by decide) ?_
              refine rw_aload_n 99 dX10_sunday_99 0 rfl ?_
              refine rw_getR 100 10 2 kc10 dX10_sunday_100 ly_0 rln_0 fX10_26 rfl rf_0_2 ?_
              refine rw_getR 103 5 4 kc5 dX10_sunday_103 ly_9 rln_9 fX10_123 rfl rf_9_4 ?_
              refine rw_iload_n 106 dX10_sunday_106 1 rfl ?_
              refine rn_iald 107 dX10_sunday_107 ly_10 rln_10 h (fun h => ?_)
              exact rn_iret2 108 dX10_sunday_108 rfl h
            · rcases if_b h with ⟨c8, h⟩ | ⟨c8, h⟩
              · refine rn_tab 11 5 109 dX10_sunday_11 c8 (by decide) (by decide) rfl (by decide) ?_
                refine rw_aload_n 109 dX10_sunday_109 0 rfl ?_
                refine rw_getR 110 10 2 kc10 dX10_sunday_110 ly_0 rln_0 fX10_26 rfl rf_0_2 ?_
                refine rw_getR 113 5 4 kc5 dX10_sunday_113 ly_9 rln_9 fX10_123 rfl rf_9_4 ?_
                refine rw_iload_n 116 dX10_sunday_116 1 rfl ?_
                refine rn_iald 117 dX10_sunday_117 ly_10 rln_10 h (fun h => ?_)
                refine rn_if_ne 118 125 dX10_sunday_118 (by decide) h (fun _ h => ?_) (fun _ h => ?_)
                · refine rw_aload_n 125 dX10_sunday_125 0 rfl ?_
                  refine rw_getR 126 10 6 kc10 dX10_sunday_126 ly_0 rln_0 fX10_47 rfl rf_0_6 ?_
                  refine rw_iconst 129 (v := 2) dX10_sunday_129 (by decide) ?_
                  refine rw_aload_n 130 dX10_sunday_130 0 rfl ?_
                  refine rw_getR 131 10 9 kc10 dX10_sunday_131 ly_0 rln_0 fX10_68 rfl rf_0_9 ?_
                  refine rw_aload_n 134 dX10_sunday_134 0 rfl ?_
                  refine rw_getR 135 10 2 kc10 dX10_sunday_135 ly_0 rln_0 fX10_26 rfl rf_0_2 ?_
                  refine rw_iload_n 138 dX10_sunday_138 1 rfl ?_
                  refine rn_cVmi 139 1 [.int 2, .ref 199, .ref 9, .int a1] dX10_sunday_139 caX1_ofSunday lX10_126 inX1_ofSunday slX1_ofSunday rfl ly_180 ⟨_, rfl, rfl⟩ rln_180 naX1_ofSunday (Nat.le_of_ble_eq_true rfl) (Nat.le_of_ble_eq_true rfl) (by decide) (fun _ hq => wX1_ofSunday 2 199 okX7_199 9 okX5_9 a1 μ hq) h (fun q9 h => ?_)
                  exact rn_iret2 142 dX10_sunday_142 rfl h
                · refine rw_iconst 121 (v := 0) dX10_sunday_121 (by decide) ?_
                  refine rw_goto 122 142 dX10_sunday_122 (by decide) ?_
                  exact rn_iret2 142 dX10_sunday_142 rfl h
              · rcases if_b h with ⟨c10, h⟩ | ⟨c10, h⟩
                · refine rn_tab 11 6 143 dX10_sunday_11 c10 (by decide) (by decide) rfl (by decide) ?_
                  refine rw_aload_n 143 dX10_sunday_143 0 rfl ?_
                  refine rw_getR 144 10 6 kc10 dX10_sunday_144 ly_0 rln_0 fX10_47 rfl rf_0_6 ?_
                  refine rw_iconst 147 (v := 3) dX10_sunday_147 (by decide) ?_
                  refine rw_aload_n 148 dX10_sunday_148 0 rfl ?_
                  refine rw_getR 149 10 9 kc10 dX10_sunday_149 ly_0 rln_0 fX10_68 rfl rf_0_9 ?_
                  refine rw_aload_n 152 dX10_sunday_152 0 rfl ?_
                  refine rw_getR 153 10 2 kc10 dX10_sunday_153 ly_0 rln_0 fX10_26 rfl rf_0_2 ?_
                  refine rw_iload_n 156 dX10_sunday_156 1 rfl ?_
                  refine rn_cVmi 157 1 [.int 3, .ref 199, .ref 9, .int a1] dX10_sunday_157 caX1_ofSunday lX10_126 inX1_ofSunday slX1_ofSunday rfl ly_180 ⟨_, rfl, rfl⟩ rln_180 naX1_ofSunday (Nat.le_of_ble_eq_true rfl) (Nat.le_of_ble_eq_true rfl) (by decide) (fun _ hq => wX1_ofSunday 3 199 okX7_199 9 okX5_9 a1 μ hq) h (fun q11 h => ?_)
                  exact rn_iret2 160 dX10_sunday_160 rfl h
                · refine rw_tabOut 11 (x := a2) 161 dX10_sunday_11 (by have := ne_int c2 (k := 0) (by decide); have := ne_int c3 (k := 1) (by decide); have := ne_int c4 (k := 2) (by decide); have := ne_int c5 (k := 3) (by decide); have := ne_int c7 (k := 4) (by decide); have := ne_int c8 (k := 5) (by decide); have := ne_int c10 (k := 6) (by decide); omega) (by decide) ?_
                  refine rw_iconst 161 (v := -1) dX10_sunday_161 (by decide) ?_
                  exact rn_iret2 162 dX10_sunday_162 rfl h
  · refine rw_iconst 8 (v := -1) dX10_sunday_8 (by decide) ?_
    exact rn_iret2 9 dX10_sunday_9 rfl h
def fX10_isGuest (a1 : Int32) (μ : Mem) : Option (Bool) :=
  if a1 < 0 then
    some false
  else
    if a1 < (μ.1 199 3) then
      some true
    else
      some false
set_option maxRecDepth 100000 in
theorem wX10_isGuest (a1 : Int32) (μ : Mem) {res : Bool} (h : fX10_isGuest a1 μ = some res) : Ct mX10_isGuest 1 NF NF [.ref 0, .int a1] (μ, Rf0, NF) (QN (some (.int (b2i res))) μ Rf0 NF) := by
  unfold fX10_isGuest at h
  show RW mX10_isGuest 1 NF NF 0 [(0, .ref 0), (1, .int a1)] [] (μ, Rf0, NF) (QN (some (.int (b2i res))) μ Rf0 NF)
  refine rw_iload_n 0 dX10_isGuest_0 1 rfl ?_
  refine rn_if_lt 1 19 dX10_isGuest_1 (by decide) h (fun _ h => ?_) (fun _ h => ?_)
  · refine rw_iconst 19 (v := 0) dX10_isGuest_19 (by decide) ?_
    exact rn_zret 20 (v := false) dX10_isGuest_20 rfl h
  · refine rw_iload_n 4 dX10_isGuest_4 1 rfl ?_
    refine rw_aload_n 5 dX10_isGuest_5 0 rfl ?_
    refine rw_getR 6 10 9 kc10 dX10_isGuest_6 ly_0 rln_0 fX10_68 rfl rf_0_9 ?_
    refine rw_getI 9 7 3 kc7 dX10_isGuest_9 ly_199 rln_199 fX10_155 rfl ?_
    refine rn_icmp_ge 12 19 dX10_isGuest_12 (by decide) h (fun _ h => ?_) (fun _ h => ?_)
    · refine rw_iconst 19 (v := 0) dX10_isGuest_19 (by decide) ?_
      exact rn_zret 20 (v := false) dX10_isGuest_20 rfl h
    · refine rw_iconst 15 (v := 1) dX10_isGuest_15 (by decide) ?_
      refine rw_goto 16 20 dX10_isGuest_16 (by decide) ?_
      exact rn_zret 20 (v := true) dX10_isGuest_20 rfl h
def fX5_isIn (t0 : Nat) (a1 : Int32) (a2 : Int32) (μ : Mem) : Option (Bool) :=
  if inb a2 4 then
  if (((μ.1 (t0 + 1) a2.toNatClampNeg) >>> (a1 &&& 31)) &&& 1) = 1 then
    some true
  else
    some false
  else none
set_option maxRecDepth 100000 in
theorem wX5_isIn (t0 : Nat) (ht0 : okX5 Rf0 NF t0) (a1 : Int32) (a2 : Int32) (μ : Mem) {res : Bool} (h : fX5_isIn t0 a1 a2 μ = some res) : Ct mX5_isIn 1 NF NF [.ref t0, .int a1, .int a2] (μ, Rf0, NF) (QN (some (.int (b2i res))) μ Rf0 NF) := by
  unfold fX5_isIn at h
  show RW mX5_isIn 1 NF NF 0 [(0, .ref t0), (1, .int a1), (2, .int a2)] [] (μ, Rf0, NF) (QN (some (.int (b2i res))) μ Rf0 NF)
  refine rw_aload_n 0 dX5_isIn_0 0 rfl ?_
  refine rw_getR 1 5 4 kc5 dX5_isIn_1 (o5l ht0) (o5n ht0) fX5_24 rfl (o5r4 ht0) ?_
  refine rw_iload_n 4 dX5_isIn_4 2 rfl ?_
  refine rn_iald 5 dX5_isIn_5 (o5l4 ht0) (o5n4 ht0) h (fun h => ?_)
  refine rw_iload_n 6 dX5_isIn_6 1 rfl ?_
  refine rw_ishr 7 dX5_isIn_7 ?_
  refine rw_iconst 8 (v := 1) dX5_isIn_8 (by decide) ?_
  refine rw_iand 9 dX5_isIn_9 ?_
  refine rw_iconst 10 (v := 1) dX5_isIn_10 (by decide) ?_
  refine rn_icmp_ne 11 18 dX5_isIn_11 (by decide) h (fun _ h => ?_) (fun _ h => ?_)
  · refine rw_iconst 18 (v := 0) dX5_isIn_18 (by decide) ?_
    exact rn_zret 19 (v := false) dX5_isIn_19 rfl h
  · refine rw_iconst 14 (v := 1) dX5_isIn_14 (by decide) ?_
    refine rw_goto 15 19 dX5_isIn_15 (by decide) ?_
    exact rn_zret 19 (v := true) dX5_isIn_19 rfl h
def fX5_whereIs_2 (t0 : Nat)  (v1 : Int32) (μ : Mem) (K : Unit → Option (Int32)) : Nat → Int32 → Option (Int32)
  | 0, _ => none
  | n + 1, v2 =>
    if v2 < 4 then
      (fX5_isIn t0 v1 v2 μ).bind fun q1 =>
      if q1 = true then
        some v2
      else
        fX5_whereIs_2 t0 v1 μ K n (v2 + 1)
    else
      K ()
def fX5_whereIs (t0 : Nat) (a1 : Int32) (μ : Mem) : Option (Int32) :=
  fX5_whereIs_2 t0 a1 μ (fun _ =>
      some (-2)
  ) FU 0
set_option maxRecDepth 100000 in
theorem wX5_whereIs_2 (t0 : Nat) (ht0 : okX5 Rf0 NF t0)  (v1 : Int32) (μ : Mem) (K : Unit → Option (Int32)) {res : Int32} (hK : ∀ (_ : Unit), K () = some res → RW mX5_whereIs 2 NF NF 24 [] [] (μ, Rf0, NF) (QN (some (.int res)) μ Rf0 NF)) : ∀ (n9 : Nat) (v2 : Int32), fX5_whereIs_2 t0 v1 μ K n9 v2 = some res → RW mX5_whereIs 2 NF NF 2 [(0, .ref t0), (1, .int v1), (2, .int v2)] [] (μ, Rf0, NF) (QN (some (.int res)) μ Rf0 NF) := by
  intro n9
  induction n9 with
  | zero => intro _ h; cases h
  | succ n ih =>
    intro v2 h
    unfold fX5_whereIs_2 at h
    refine rw_iload_n 2 dX5_whereIs_2 2 rfl ?_
    refine rw_iconst 3 (v := 4) dX5_whereIs_3 (by decide) ?_
    refine rn_icmp_ge 4 24 dX5_whereIs_4 (by decide) h (fun _ h => ?_) (fun _ h => ?_)
    · refine rw_pick 24 [] rfl ?_
      exact hK () h
    · refine rw_aload_n 7 dX5_whereIs_7 0 rfl ?_
      refine rw_iload_n 8 dX5_whereIs_8 1 rfl ?_
      refine rw_iload_n 9 dX5_whereIs_9 2 rfl ?_
      refine rn_cVpb 10 5 [.int v1, .int v2] dX5_whereIs_10 caX5_isIn lX5_34 inX5_isIn slX5_isIn rfl (o5l ht0) ⟨_, rfl, rfl⟩ (o5n ht0) naX5_isIn (Nat.le_of_ble_eq_true rfl) (Nat.le_of_ble_eq_true rfl) (by decide) (fun _ hq => wX5_isIn t0 ht0 v1 v2 μ hq) h (fun q1 h => ?_)
      refine rn_ifb_eq 13 18 dX5_whereIs_13 (by decide) h (fun _ h => ?_) (fun _ h => ?_)
      · refine rw_iinc 18 [(0, .ref t0), (1, .int v1), (2, .int (v2 + 1))] dX5_whereIs_18 2 rfl rfl (by decide) rfl ?_
        refine rw_goto 21 2 dX5_whereIs_21 (by decide) ?_
        exact ih (v2 + 1) h
      · refine rw_iload_n 16 dX5_whereIs_16 2 rfl ?_
        exact rn_iret 17 dX5_whereIs_17 rfl h
set_option maxRecDepth 100000 in
theorem wX5_whereIs (t0 : Nat) (ht0 : okX5 Rf0 NF t0) (a1 : Int32) (μ : Mem) {res : Int32} (h : fX5_whereIs t0 a1 μ = some res) : Ct mX5_whereIs 2 NF NF [.ref t0, .int a1] (μ, Rf0, NF) (QN (some (.int res)) μ Rf0 NF) := by
  unfold fX5_whereIs at h
  show RW mX5_whereIs 2 NF NF 0 [(0, .ref t0), (1, .int a1)] [] (μ, Rf0, NF) (QN (some (.int res)) μ Rf0 NF)
  refine rw_iconst 0 (v := 0) dX5_whereIs_0 (by decide) ?_
  refine rw_istore_n 1 [(0, .ref t0), (1, .int a1), (2, .int 0)] dX5_whereIs_1 (by decide) rfl ?_
  refine wX5_whereIs_2 t0 ht0 a1 μ _ (fun _ h => ?_) FU 0 h
  refine rw_bipush 24 (v := -2) dX5_whereIs_24 (by decide) ?_
  exact rn_iret 26 dX5_whereIs_26 rfl h
def fX5_isDead (t0 : Nat) (a1 : Int32) (μ : Mem) : Option (Bool) :=
  if (((μ.1 t0 2) >>> (a1 &&& 31)) &&& 1) = 1 then
    some true
  else
    some false
set_option maxRecDepth 100000 in
theorem wX5_isDead (t0 : Nat) (ht0 : okX5 Rf0 NF t0) (a1 : Int32) (μ : Mem) {res : Bool} (h : fX5_isDead t0 a1 μ = some res) : Ct mX5_isDead 1 NF NF [.ref t0, .int a1] (μ, Rf0, NF) (QN (some (.int (b2i res))) μ Rf0 NF) := by
  unfold fX5_isDead at h
  show RW mX5_isDead 1 NF NF 0 [(0, .ref t0), (1, .int a1)] [] (μ, Rf0, NF) (QN (some (.int (b2i res))) μ Rf0 NF)
  refine rw_aload_n 0 dX5_isDead_0 0 rfl ?_
  refine rw_getI 1 5 2 kc5 dX5_isDead_1 (o5l ht0) (o5n ht0) fX5_18 rfl ?_
  refine rw_iload_n 4 dX5_isDead_4 1 rfl ?_
  refine rw_ishr 5 dX5_isDead_5 ?_
  refine rw_iconst 6 (v := 1) dX5_isDead_6 (by decide) ?_
  refine rw_iand 7 dX5_isDead_7 ?_
  refine rw_iconst 8 (v := 1) dX5_isDead_8 (by decide) ?_
  refine rn_icmp_ne 9 16 dX5_isDead_9 (by decide) h (fun _ h => ?_) (fun _ h => ?_)
  · refine rw_iconst 16 (v := 0) dX5_isDead_16 (by decide) ?_
    exact rn_zret 17 (v := false) dX5_isDead_17 rfl h
  · refine rw_iconst 12 (v := 1) dX5_isDead_12 (by decide) ?_
    refine rw_goto 13 17 dX5_isDead_13 (by decide) ?_
    exact rn_zret 17 (v := true) dX5_isDead_17 rfl h
def fX1_ofGuest (a1 : Int32) (t2 : Nat) (t3 : Nat) (a4 : Int32) (a5 : Int32) (a6 : Int32) (μ : Mem) : Option (Int32 × Mem) :=
  (fX1_setSunday t2 t3 a5 μ).bind fun q1 =>
  if inb a4 7 then
  nm (wI q1 181 0 (q1.1 (t2 + 5) a4.toNatClampNeg)) fun μ2 =>
  if inb a4 7 then
  nm (wI μ2 181 1 (μ2.1 (t2 + 4) a4.toNatClampNeg)) fun μ3 =>
  if inb a4 7 then
  nm (wI μ3 181 2 (μ3.1 (t2 + 3) a4.toNatClampNeg)) fun μ4 =>
  if inb a4 7 then
  nm (wI μ4 181 3 (μ4.1 (t3 + 3) a4.toNatClampNeg)) fun μ5 =>
  nm (wI μ5 181 7 a4) fun μ6 =>
  nm (wI μ6 181 8 a6) fun μ7 =>
  (fX1_answerHeld (t2 + 6) a1 μ7).bind fun q8 =>
  some (q8.1, q8.2)
  else none
  else none
  else none
  else none
set_option maxRecDepth 100000 in
theorem wX1_ofGuest (a1 : Int32) (t2 : Nat) (ht2 : okX7 Rf0 NF t2) (t3 : Nat) (ht3 : okX5 Rf0 NF t3) (a4 : Int32) (a5 : Int32) (a6 : Int32) (μ : Mem) {res : Int32 × Mem} (h : fX1_ofGuest a1 t2 t3 a4 a5 a6 μ = some res) : Ct mX1_ofGuest 4 NF NF [.ref 180, .int a1, .ref t2, .ref t3, .int a4, .int a5, .int a6] (μ, Rf0, NF) (QN (some (.int res.1)) res.2 Rf0 NF) := by
  unfold fX1_ofGuest at h
  show RW mX1_ofGuest 4 NF NF 0 [(0, .ref 180), (1, .int a1), (2, .ref t2), (3, .ref t3), (4, .int a4), (5, .int a5), (6, .int a6)] [] (μ, Rf0, NF) (QN (some (.int res.1)) res.2 Rf0 NF)
  refine rw_aload_n 0 dX1_ofGuest_0 0 rfl ?_
  refine rw_aload_n 1 dX1_ofGuest_1 2 rfl ?_
  refine rw_aload_n 2 dX1_ofGuest_2 3 rfl ?_
  refine rw_iload 3 dX1_ofGuest_3 5 rfl ?_
  refine rn_cVmv 5 1 [.ref t2, .ref t3, .int a5] dX1_ofGuest_5 caX1_setSunday lX1_38 inX1_setSunday slX1_setSunday rfl ly_180 ⟨_, rfl, rfl⟩ rln_180 naX1_setSunday (Nat.le_of_ble_eq_true rfl) (Nat.le_of_ble_eq_true rfl) (by decide) (fun _ hq => wX1_setSunday t2 ht2 t3 ht3 a5 μ hq) h (fun q1 h => ?_)
  refine rw_aload_n 8 dX1_ofGuest_8 0 rfl ?_
  refine rw_getR 9 1 0 kc1 dX1_ofGuest_9 ly_180 rln_180 fX1_9 rfl rf_180_0 ?_
  refine rw_iconst 12 (v := 0) dX1_ofGuest_12 (by decide) ?_
  refine rw_aload_n 13 dX1_ofGuest_13 2 rfl ?_
  refine rw_getR 14 7 6 kc7 dX1_ofGuest_14 (o7l ht2) (o7n ht2) fX1_42 rfl (o7r6 ht2) ?_
  refine rw_iload 17 dX1_ofGuest_17 4 rfl ?_
  refine rn_iald 19 dX1_ofGuest_19 (o7l6 ht2) (o7n6 ht2) h (fun h => ?_)
  refine rn_iastc 20 dX1_ofGuest_20 ly_181 rln_181 (by decide) (j := 0) (by decide) h (fun μ2 h => ?_)
  refine rw_aload_n 21 dX1_ofGuest_21 0 rfl ?_
  refine rw_getR 22 1 0 kc1 dX1_ofGuest_22 ly_180 rln_180 fX1_9 rfl rf_180_0 ?_
  refine rw_iconst 25 (v := 1) dX1_ofGuest_25 (by decide) ?_
  refine rw_aload_n 26 dX1_ofGuest_26 2 rfl ?_
  refine rw_getR 27 7 5 kc7 dX1_ofGuest_27 (o7l ht2) (o7n ht2) fX1_47 rfl (o7r5 ht2) ?_
  refine rw_iload 30 dX1_ofGuest_30 4 rfl ?_
  refine rn_iald 32 dX1_ofGuest_32 (o7l5 ht2) (o7n5 ht2) h (fun h => ?_)
  refine rn_iastc 33 dX1_ofGuest_33 ly_181 rln_181 (by decide) (j := 1) (by decide) h (fun μ3 h => ?_)
  refine rw_aload_n 34 dX1_ofGuest_34 0 rfl ?_
  refine rw_getR 35 1 0 kc1 dX1_ofGuest_35 ly_180 rln_180 fX1_9 rfl rf_180_0 ?_
  refine rw_iconst 38 (v := 2) dX1_ofGuest_38 (by decide) ?_
  refine rw_aload_n 39 dX1_ofGuest_39 2 rfl ?_
  refine rw_getR 40 7 4 kc7 dX1_ofGuest_40 (o7l ht2) (o7n ht2) fX1_50 rfl (o7r4 ht2) ?_
  refine rw_iload 43 dX1_ofGuest_43 4 rfl ?_
  refine rn_iald 45 dX1_ofGuest_45 (o7l4 ht2) (o7n4 ht2) h (fun h => ?_)
  refine rn_iastc 46 dX1_ofGuest_46 ly_181 rln_181 (by decide) (j := 2) (by decide) h (fun μ4 h => ?_)
  refine rw_aload_n 47 dX1_ofGuest_47 0 rfl ?_
  refine rw_getR 48 1 0 kc1 dX1_ofGuest_48 ly_180 rln_180 fX1_9 rfl rf_180_0 ?_
  refine rw_iconst 51 (v := 3) dX1_ofGuest_51 (by decide) ?_
  refine rw_aload_n 52 dX1_ofGuest_52 3 rfl ?_
  refine rw_getR 53 5 6 kc5 dX1_ofGuest_53 (o5l ht3) (o5n ht3) fX1_53 rfl (o5r6 ht3) ?_
  refine rw_iload 56 dX1_ofGuest_56 4 rfl ?_
  refine rn_iald 58 dX1_ofGuest_58 (o5l6 ht3) (o5n6 ht3) h (fun h => ?_)
  refine rn_iastc 59 dX1_ofGuest_59 ly_181 rln_181 (by decide) (j := 3) (by decide) h (fun μ5 h => ?_)
  refine rw_aload_n 60 dX1_ofGuest_60 0 rfl ?_
  refine rw_getR 61 1 0 kc1 dX1_ofGuest_61 ly_180 rln_180 fX1_9 rfl rf_180_0 ?_
  refine rw_bipush 64 (v := 7) dX1_ofGuest_64 (by decide) ?_
  refine rw_iload 66 dX1_ofGuest_66 4 rfl ?_
  refine rn_iastc 68 dX1_ofGuest_68 ly_181 rln_181 (by decide) (j := 7) (by decide) h (fun μ6 h => ?_)
  refine rw_aload_n 69 dX1_ofGuest_69 0 rfl ?_
  refine rw_getR 70 1 0 kc1 dX1_ofGuest_70 ly_180 rln_180 fX1_9 rfl rf_180_0 ?_
  refine rw_bipush 73 (v := 8) dX1_ofGuest_73 (by decide) ?_
  refine rw_iload 75 dX1_ofGuest_75 6 rfl ?_
  refine rn_iastc 77 dX1_ofGuest_77 ly_181 rln_181 (by decide) (j := 8) (by decide) h (fun μ7 h => ?_)
  refine rw_aload_n 78 dX1_ofGuest_78 0 rfl ?_
  refine rw_aload_n 79 dX1_ofGuest_79 2 rfl ?_
  refine rw_getR 80 7 10 kc7 dX1_ofGuest_80 (o7l ht2) (o7n ht2) fX1_56 rfl (o7r10 ht2) ?_
  refine rw_iload_n 83 dX1_ofGuest_83 1 rfl ?_
  refine rn_cVmi 84 1 [.ref (t2 + 6), .int a1] dX1_ofGuest_84 caX1_answerHeld lX1_60 inX1_answerHeld slX1_answerHeld rfl ly_180 ⟨_, rfl, rfl⟩ rln_180 naX1_answerHeld (Nat.le_of_ble_eq_true rfl) (Nat.le_of_ble_eq_true rfl) (by decide) (fun _ hq => wX1_answerHeld (t2 + 6) (o7k10 ht2) a1 μ7 hq) h (fun q8 h => ?_)
  exact rn_iret2 87 dX1_ofGuest_87 rfl h
def fX1_ofGuestNow (a1 : Int32) (t2 : Nat) (t3 : Nat) (a4 : Int32) (μ : Mem) : Option (Int32 × Mem) :=
  (fX5_whereIs t3 a4 μ).bind fun q1 =>
  if q1 = (-2) then
    some (0, μ)
  else
    if inb q1 4 then
    (fJ6_bitCount_0f7a4 (μ.1 (t3 + 1) q1.toNatClampNeg) μ).bind fun q2 =>
    (fX1_ofGuest a1 t2 t3 a4 q1 (q2 - 1) μ).bind fun q3 =>
    some (q3.1, q3.2)
    else none
set_option maxRecDepth 100000 in
theorem wX1_ofGuestNow (a1 : Int32) (t2 : Nat) (ht2 : okX7 Rf0 NF t2) (t3 : Nat) (ht3 : okX5 Rf0 NF t3) (a4 : Int32) (μ : Mem) {res : Int32 × Mem} (h : fX1_ofGuestNow a1 t2 t3 a4 μ = some res) : Ct mX1_ofGuestNow 5 NF NF [.ref 180, .int a1, .ref t2, .ref t3, .int a4] (μ, Rf0, NF) (QN (some (.int res.1)) res.2 Rf0 NF) := by
  unfold fX1_ofGuestNow at h
  show RW mX1_ofGuestNow 5 NF NF 0 [(0, .ref 180), (1, .int a1), (2, .ref t2), (3, .ref t3), (4, .int a4)] [] (μ, Rf0, NF) (QN (some (.int res.1)) res.2 Rf0 NF)
  refine rw_aload_n 0 dX1_ofGuestNow_0 3 rfl ?_
  refine rw_iload 1 dX1_ofGuestNow_1 4 rfl ?_
  refine rn_cVpi 3 5 [.int a4] dX1_ofGuestNow_3 caX5_whereIs lX1_20 inX5_whereIs slX5_whereIs rfl (o5l ht3) ⟨_, rfl, rfl⟩ (o5n ht3) naX5_whereIs (Nat.le_of_ble_eq_true rfl) (Nat.le_of_ble_eq_true rfl) (by decide) (fun _ hq => wX5_whereIs t3 ht3 a4 μ hq) h (fun q1 h => ?_)
  refine rw_istore 6 [(0, .ref 180), (1, .int a1), (2, .ref t2), (3, .ref t3), (4, .int a4), (5, .int q1)] dX1_ofGuestNow_6 (by decide) rfl ?_
  refine rw_iload 8 dX1_ofGuestNow_8 5 rfl ?_
  refine rw_bipush 10 (v := -2) dX1_ofGuestNow_10 (by decide) ?_
  refine rn_icmp_ne 12 17 dX1_ofGuestNow_12 (by decide) h (fun _ h => ?_) (fun _ h => ?_)
  · refine rw_aload_n 17 dX1_ofGuestNow_17 0 rfl ?_
    refine rw_iload_n 18 dX1_ofGuestNow_18 1 rfl ?_
    refine rw_aload_n 19 dX1_ofGuestNow_19 2 rfl ?_
    refine rw_aload_n 20 dX1_ofGuestNow_20 3 rfl ?_
    refine rw_iload 21 dX1_ofGuestNow_21 4 rfl ?_
    refine rw_iload 23 dX1_ofGuestNow_23 5 rfl ?_
    refine rw_aload_n 25 dX1_ofGuestNow_25 3 rfl ?_
    refine rw_getR 26 5 4 kc5 dX1_ofGuestNow_26 (o5l ht3) (o5n ht3) fX1_26 rfl (o5r4 ht3) ?_
    refine rw_iload 29 dX1_ofGuestNow_29 5 rfl ?_
    refine rn_iald 31 dX1_ofGuestNow_31 (o5l4 ht3) (o5n4 ht3) h (fun h => ?_)
    refine rn_cSpi 32 [.int (μ.1 (t3 + 1) q1.toNatClampNeg)] dX1_ofGuestNow_32 caJ6_bitCount_0f7a4 lX1_29 stJ6_bitCount_0f7a4 rfl naJ6_bitCount_0f7a4 (Nat.le_of_ble_eq_true rfl) (Nat.le_of_ble_eq_true rfl) (by decide) (fun _ hq => wJ6_bitCount_0f7a4 (μ.1 (t3 + 1) q1.toNatClampNeg) μ hq) h (fun q2 h => ?_)
    refine rw_iconst 35 (v := 1) dX1_ofGuestNow_35 (by decide) ?_
    refine rw_isub 36 dX1_ofGuestNow_36 ?_
    refine rn_cVmi 37 1 [.int a1, .ref t2, .ref t3, .int a4, .int q1, .int (q2 - 1)] dX1_ofGuestNow_37 caX1_ofGuest lX1_34 inX1_ofGuest slX1_ofGuest rfl ly_180 ⟨_, rfl, rfl⟩ rln_180 naX1_ofGuest (Nat.le_of_ble_eq_true rfl) (Nat.le_of_ble_eq_true rfl) (by decide) (fun _ hq => wX1_ofGuest a1 t2 ht2 t3 ht3 a4 q1 (q2 - 1) μ hq) h (fun q3 h => ?_)
    exact rn_iret2 40 dX1_ofGuestNow_40 rfl h
  · refine rw_iconst 15 (v := 0) dX1_ofGuestNow_15 (by decide) ?_
    exact rn_iret2 16 dX1_ofGuestNow_16 rfl h
def fX10_guest (a1 : Int32) (a2 : Int32) (μ : Mem) : Option (Int32 × Mem) :=
  (fX10_isGuest a1 μ).bind fun q1 =>
  if q1 = true then
    if a2 = 0 then
      if inb a1 7 then
      some ((μ.1 202 a1.toNatClampNeg), μ)
      else none
    else
    if a2 = 1 then
      if inb a1 7 then
      some ((μ.1 203 a1.toNatClampNeg), μ)
      else none
    else
    if a2 = 2 then
      if inb a1 7 then
      some ((μ.1 204 a1.toNatClampNeg), μ)
      else none
    else
    if a2 = 3 then
      (fX5_whereIs 9 a1 μ).bind fun q6 =>
      some (q6, μ)
    else
    if a2 = 4 then
      if inb a1 7 then
      some ((μ.1 12 a1.toNatClampNeg), μ)
      else none
    else
    if a2 = 5 then
      (fX5_isDead 9 a1 μ).bind fun q9 =>
      if q9 = true then
        some (1, μ)
      else
        some (0, μ)
    else
    if a2 = 6 then
      (fX1_ofGuestNow 0 199 9 a1 μ).bind fun q11 =>
      some (q11.1, q11.2)
    else
    if a2 = 7 then
      (fX1_ofGuestNow 1 199 9 a1 μ).bind fun q13 =>
      some (q13.1, q13.2)
    else
      some ((-1), μ)
  else
    some ((-1), μ)
set_option maxRecDepth 100000 in
theorem wX10_guest (a1 : Int32) (a2 : Int32) (μ : Mem) {res : Int32 × Mem} (h : fX10_guest a1 a2 μ = some res) : Ct mX10_guest 6 NF NF [.ref 0, .int a1, .int a2] (μ, Rf0, NF) (QN (some (.int res.1)) res.2 Rf0 NF) := by
  unfold fX10_guest at h
  show RW mX10_guest 6 NF NF 0 [(0, .ref 0), (1, .int a1), (2, .int a2)] [] (μ, Rf0, NF) (QN (some (.int res.1)) res.2 Rf0 NF)
  refine rw_aload_n 0 dX10_guest_0 0 rfl ?_
  refine rw_iload_n 1 dX10_guest_1 1 rfl ?_
  refine rn_cVpb 2 10 [.int a1] dX10_guest_2 caX10_isGuest lX10_130 inX10_isGuest slX10_isGuest rfl ly_0 ⟨_, rfl, rfl⟩ rln_0 naX10_isGuest (Nat.le_of_ble_eq_true rfl) (Nat.le_of_ble_eq_true rfl) (by decide) (fun _ hq => wX10_isGuest a1 μ hq) h (fun q1 h => ?_)
  refine rn_ifb_ne 5 10 dX10_guest_5 (by decide) h (fun _ h => ?_) (fun _ h => ?_)
  · refine rw_iload_n 10 dX10_guest_10 2 rfl ?_
    rcases if_b h with ⟨c2, h⟩ | ⟨c2, h⟩
    · refine rn_tab 11 0 56 dX10_guest_11 c2 (by decide) (by decide) rfl (by decide) ?_
      refine rw_aload_n 56 dX10_guest_56 0 rfl ?_
      refine rw_getR 57 10 9 kc10 dX10_guest_57 ly_0 rln_0 fX10_68 rfl rf_0_9 ?_
      refine rw_getR 60 7 4 kc7 dX10_guest_60 ly_199 rln_199 fX10_133 rfl rf_199_4 ?_
      refine rw_iload_n 63 dX10_guest_63 1 rfl ?_
      refine rn_iald 64 dX10_guest_64 ly_202 rln_202 h (fun h => ?_)
      exact rn_iret2 65 dX10_guest_65 rfl h
    · rcases if_b h with ⟨c3, h⟩ | ⟨c3, h⟩
      · refine rn_tab 11 1 66 dX10_guest_11 c3 (by decide) (by decide) rfl (by decide) ?_
        refine rw_aload_n 66 dX10_guest_66 0 rfl ?_
        refine rw_getR 67 10 9 kc10 dX10_guest_67 ly_0 rln_0 fX10_68 rfl rf_0_9 ?_
        refine rw_getR 70 7 5 kc7 dX10_guest_70 ly_199 rln_199 fX10_136 rfl rf_199_5 ?_
        refine rw_iload_n 73 dX10_guest_73 1 rfl ?_
        refine rn_iald 74 dX10_guest_74 ly_203 rln_203 h (fun h => ?_)
        exact rn_iret2 75 dX10_guest_75 rfl h
      · rcases if_b h with ⟨c4, h⟩ | ⟨c4, h⟩
        · refine rn_tab 11 2 76 dX10_guest_11 c4 (by decide) (by decide) rfl (by decide) ?_
          refine rw_aload_n 76 dX10_guest_76 0 rfl ?_
          refine rw_getR 77 10 9 kc10 dX10_guest_77 ly_0 rln_0 fX10_68 rfl rf_0_9 ?_
          refine rw_getR 80 7 6 kc7 dX10_guest_80 ly_199 rln_199 fX10_139 rfl rf_199_6 ?_
          refine rw_iload_n 83 dX10_guest_83 1 rfl ?_
          refine rn_iald 84 dX10_guest_84 ly_204 rln_204 h (fun h => ?_)
          exact rn_iret2 85 dX10_guest_85 rfl h
        · rcases if_b h with ⟨c5, h⟩ | ⟨c5, h⟩
          · refine rn_tab 11 3 86 dX10_guest_11 c5 (by decide) (by decide) rfl (by decide) ?_
            refine rw_aload_n 86 dX10_guest_86 0 rfl ?_
            refine rw_getR 87 10 2 kc10 dX10_guest_87 ly_0 rln_0 fX10_26 rfl rf_0_2 ?_
            refine rw_iload_n 90 dX10_guest_90 1 rfl ?_
            refine rn_cVpi 91 5 [.int a1] dX10_guest_91 caX5_whereIs lX10_142 inX5_whereIs slX5_whereIs rfl ly_9 ⟨_, rfl, rfl⟩ rln_9 naX5_whereIs (Nat.le_of_ble_eq_true rfl) (Nat.le_of_ble_eq_true rfl) (by decide) (fun _ hq => wX5_whereIs 9 okX5_9 a1 μ hq) h (fun q6 h => ?_)
            exact rn_iret2 94 dX10_guest_94 rfl h
          · rcases if_b h with ⟨c7, h⟩ | ⟨c7, h⟩
            · refine rn_tab 11 4 95 dX10_guest_11 c7 (by decide) (by decide) rfl (by decide) ?_
              refine rw_aload_n 95 dX10_guest_95 0 rfl ?_
              refine rw_getR 96 10 2 kc10 dX10_guest_96 ly_0 rln_0 fX10_26 rfl rf_0_2 ?_
              refine rw_getR 99 5 6 kc5 dX10_guest_99 ly_9 rln_9 fX10_146 rfl rf_9_6 ?_
              refine rw_iload_n 102 dX10_guest_102 1 rfl ?_
              refine rn_iald 103 dX10_guest_103 ly_12 rln_12 h (fun h => ?_)
              exact rn_iret2 104 dX10_guest_104 rfl h
            · rcases if_b h with ⟨c8, h⟩ | ⟨c8, h⟩
              · refine rn_tab 11 5 105 dX10_guest_11 c8 (by decide) (by decide) rfl (by decide) ?_
                refine rw_aload_n 105 dX10_guest_105 0 rfl ?_
                refine rw_getR 106 10 2 kc10 dX10_guest_106 ly_0 rln_0 fX10_26 rfl rf_0_2 ?_
                refine rw_iload_n 109 dX10_guest_109 1 rfl ?_
                refine rn_cVpb 110 5 [.int a1] dX10_guest_110 caX5_isDead lX10_149 inX5_isDead slX5_isDead rfl ly_9 ⟨_, rfl, rfl⟩ rln_9 naX5_isDead (Nat.le_of_ble_eq_true rfl) (Nat.le_of_ble_eq_true rfl) (by decide) (fun _ hq => wX5_isDead 9 okX5_9 a1 μ hq) h (fun q9 h => ?_)
                refine rn_ifb_eq 113 120 dX10_guest_113 (by decide) h (fun _ h => ?_) (fun _ h => ?_)
                · refine rw_iconst 120 (v := 0) dX10_guest_120 (by decide) ?_
                  exact rn_iret2 121 dX10_guest_121 rfl h
                · refine rw_iconst 116 (v := 1) dX10_guest_116 (by decide) ?_
                  refine rw_goto 117 121 dX10_guest_117 (by decide) ?_
                  exact rn_iret2 121 dX10_guest_121 rfl h
              · rcases if_b h with ⟨c10, h⟩ | ⟨c10, h⟩
                · refine rn_tab 11 6 122 dX10_guest_11 c10 (by decide) (by decide) rfl (by decide) ?_
                  refine rw_aload_n 122 dX10_guest_122 0 rfl ?_
                  refine rw_getR 123 10 6 kc10 dX10_guest_123 ly_0 rln_0 fX10_47 rfl rf_0_6 ?_
                  refine rw_iconst 126 (v := 0) dX10_guest_126 (by decide) ?_
                  refine rw_aload_n 127 dX10_guest_127 0 rfl ?_
                  refine rw_getR 128 10 9 kc10 dX10_guest_128 ly_0 rln_0 fX10_68 rfl rf_0_9 ?_
                  refine rw_aload_n 131 dX10_guest_131 0 rfl ?_
                  refine rw_getR 132 10 2 kc10 dX10_guest_132 ly_0 rln_0 fX10_26 rfl rf_0_2 ?_
                  refine rw_iload_n 135 dX10_guest_135 1 rfl ?_
                  refine rn_cVmi 136 1 [.int 0, .ref 199, .ref 9, .int a1] dX10_guest_136 caX1_ofGuestNow lX10_152 inX1_ofGuestNow slX1_ofGuestNow rfl ly_180 ⟨_, rfl, rfl⟩ rln_180 naX1_ofGuestNow (Nat.le_of_ble_eq_true rfl) (Nat.le_of_ble_eq_true rfl) (by decide) (fun _ hq => wX1_ofGuestNow 0 199 okX7_199 9 okX5_9 a1 μ hq) h (fun q11 h => ?_)
                  exact rn_iret2 139 dX10_guest_139 rfl h
                · rcases if_b h with ⟨c12, h⟩ | ⟨c12, h⟩
                  · refine rn_tab 11 7 140 dX10_guest_11 c12 (by decide) (by decide) rfl (by decide) ?_
                    refine rw_aload_n 140 dX10_guest_140 0 rfl ?_
                    refine rw_getR 141 10 6 kc10 dX10_guest_141 ly_0 rln_0 fX10_47 rfl rf_0_6 ?_
                    refine rw_iconst 144 (v := 1) dX10_guest_144 (by decide) ?_
                    refine rw_aload_n 145 dX10_guest_145 0 rfl ?_
                    refine rw_getR 146 10 9 kc10 dX10_guest_146 ly_0 rln_0 fX10_68 rfl rf_0_9 ?_
                    refine rw_aload_n 149 dX10_guest_149 0 rfl ?_
                    refine rw_getR 150 10 2 kc10 dX10_guest_150 ly_0 rln_0 fX10_26 rfl rf_0_2 ?_
                    refine rw_iload_n 153 dX10_guest_153 1 rfl ?_
                    refine rn_cVmi 154 1 [.int 1, .ref 199, .ref 9, .int a1] dX10_guest_154 caX1_ofGuestNow lX10_152 inX1_ofGuestNow slX1_ofGuestNow rfl ly_180 ⟨_, rfl, rfl⟩ rln_180 naX1_ofGuestNow (Nat.le_of_ble_eq_true rfl) (Nat.le_of_ble_eq_true rfl) (by decide) (fun _ hq => wX1_ofGuestNow 1 199 okX7_199 9 okX5_9 a1 μ hq) h (fun q13 h => ?_)
                    exact rn_iret2 157 dX10_guest_157 rfl h
                  · refine rw_tabOut 11 (x := a2) 158 dX10_guest_11 (by have := ne_int c2 (k := 0) (by decide); have := ne_int c3 (k := 1) (by decide); have := ne_int c4 (k := 2) (by decide); have := ne_int c5 (k := 3) (by decide); have := ne_int c7 (k := 4) (by decide); have := ne_int c8 (k := 5) (by decide); have := ne_int c10 (k := 6) (by decide); have := ne_int c12 (k := 7) (by decide); omega) (by decide) ?_
                    refine rw_iconst 158 (v := -1) dX10_guest_158 (by decide) ?_
                    exact rn_iret2 159 dX10_guest_159 rfl h
  · refine rw_iconst 8 (v := -1) dX10_guest_8 (by decide) ?_
    exact rn_iret2 9 dX10_guest_9 rfl h
def fX7_isThere (t0 : Nat) (a1 : Int32) (a2 : Int32) (μ : Mem) : Option (Bool) :=
  if inb a1 7 then
  if a2 < (μ.1 (t0 + 3) a1.toNatClampNeg) then
    some false
  else
    if inb a1 7 then
    if inb a1 7 then
    if a2 < ((μ.1 (t0 + 3) a1.toNatClampNeg) + (μ.1 (t0 + 4) a1.toNatClampNeg)) then
      some true
    else
      some false
    else none
    else none
  else none
set_option maxRecDepth 100000 in
theorem wX7_isThere (t0 : Nat) (ht0 : okX7 Rf0 NF t0) (a1 : Int32) (a2 : Int32) (μ : Mem) {res : Bool} (h : fX7_isThere t0 a1 a2 μ = some res) : Ct mX7_isThere 1 NF NF [.ref t0, .int a1, .int a2] (μ, Rf0, NF) (QN (some (.int (b2i res))) μ Rf0 NF) := by
  unfold fX7_isThere at h
  show RW mX7_isThere 1 NF NF 0 [(0, .ref t0), (1, .int a1), (2, .int a2)] [] (μ, Rf0, NF) (QN (some (.int (b2i res))) μ Rf0 NF)
  refine rw_iload_n 0 dX7_isThere_0 2 rfl ?_
  refine rw_aload_n 1 dX7_isThere_1 0 rfl ?_
  refine rw_getR 2 7 4 kc7 dX7_isThere_2 (o7l ht0) (o7n ht0) fX7_25 rfl (o7r4 ht0) ?_
  refine rw_iload_n 5 dX7_isThere_5 1 rfl ?_
  refine rn_iald 6 dX7_isThere_6 (o7l4 ht0) (o7n4 ht0) h (fun h => ?_)
  refine rn_icmp_lt 7 31 dX7_isThere_7 (by decide) h (fun _ h => ?_) (fun _ h => ?_)
  · refine rw_iconst 31 (v := 0) dX7_isThere_31 (by decide) ?_
    exact rn_zret 32 (v := false) dX7_isThere_32 rfl h
  · refine rw_iload_n 10 dX7_isThere_10 2 rfl ?_
    refine rw_aload_n 11 dX7_isThere_11 0 rfl ?_
    refine rw_getR 12 7 4 kc7 dX7_isThere_12 (o7l ht0) (o7n ht0) fX7_25 rfl (o7r4 ht0) ?_
    refine rw_iload_n 15 dX7_isThere_15 1 rfl ?_
    refine rn_iald 16 dX7_isThere_16 (o7l4 ht0) (o7n4 ht0) h (fun h => ?_)
    refine rw_aload_n 17 dX7_isThere_17 0 rfl ?_
    refine rw_getR 18 7 5 kc7 dX7_isThere_18 (o7l ht0) (o7n ht0) fX7_28 rfl (o7r5 ht0) ?_
    refine rw_iload_n 21 dX7_isThere_21 1 rfl ?_
    refine rn_iald 22 dX7_isThere_22 (o7l5 ht0) (o7n5 ht0) h (fun h => ?_)
    refine rw_iadd 23 dX7_isThere_23 ?_
    refine rn_icmp_ge 24 31 dX7_isThere_24 (by decide) h (fun _ h => ?_) (fun _ h => ?_)
    · refine rw_iconst 31 (v := 0) dX7_isThere_31 (by decide) ?_
      exact rn_zret 32 (v := false) dX7_isThere_32 rfl h
    · refine rw_iconst 27 (v := 1) dX7_isThere_27 (by decide) ?_
      refine rw_goto 28 32 dX7_isThere_28 (by decide) ?_
      exact rn_zret 32 (v := true) dX7_isThere_32 rfl h
def fX10_at_29   (v1 : Int32) (v2 : Int32) (μ : Mem) (K : Unit → Option (Int32)) : Nat → Int32 → Option (Int32)
  | 0, _ => none
  | n + 1, v3 =>
    if v3 < (μ.1 199 3) then
      (fX5_isIn 9 v3 v1 μ).bind fun q2 =>
      if q2 = true then
        (fX7_isThere 199 v3 v2 μ).bind fun q3 =>
        if q3 = true then
          some v3
        else
          fX10_at_29 v1 v2 μ K n (v3 + 1)
      else
        fX10_at_29 v1 v2 μ K n (v3 + 1)
    else
      K ()
def fX10_at (a1 : Int32) (a2 : Int32) (μ : Mem) : Option (Int32) :=
  (fX10_isSunday a1 μ).bind fun q1 =>
  if q1 = true then
    if a2 < 0 then
      some (-1)
    else
      if inb a1 4 then
      if a2 < (μ.1 200 a1.toNatClampNeg) then
        fX10_at_29 a1 a2 μ (fun _ =>
            some (-2)
        ) FU 0
      else
        some (-1)
      else none
  else
    some (-1)
set_option maxRecDepth 100000 in
theorem wX10_at_29   (v1 : Int32) (v2 : Int32) (μ : Mem) (K : Unit → Option (Int32)) {res : Int32} (hK : ∀ (_ : Unit), K () = some res → RW mX10_at 2 NF NF 72 [] [] (μ, Rf0, NF) (QN (some (.int res)) μ Rf0 NF)) : ∀ (n9 : Nat) (v3 : Int32), fX10_at_29 v1 v2 μ K n9 v3 = some res → RW mX10_at 2 NF NF 29 [(0, .ref 0), (1, .int v1), (2, .int v2), (3, .int v3)] [] (μ, Rf0, NF) (QN (some (.int res)) μ Rf0 NF) := by
  intro n9
  induction n9 with
  | zero => intro _ h; cases h
  | succ n ih =>
    intro v3 h
    unfold fX10_at_29 at h
    refine rw_iload_n 29 dX10_at_29 3 rfl ?_
    refine rw_aload_n 30 dX10_at_30 0 rfl ?_
    refine rw_getR 31 10 9 kc10 dX10_at_31 ly_0 rln_0 fX10_68 rfl rf_0_9 ?_
    refine rw_getI 34 7 3 kc7 dX10_at_34 ly_199 rln_199 fX10_155 rfl ?_
    refine rn_icmp_ge 37 72 dX10_at_37 (by decide) h (fun _ h => ?_) (fun _ h => ?_)
    · refine rw_pick 72 [] rfl ?_
      exact hK () h
    · refine rw_aload_n 40 dX10_at_40 0 rfl ?_
      refine rw_getR 41 10 2 kc10 dX10_at_41 ly_0 rln_0 fX10_26 rfl rf_0_2 ?_
      refine rw_iload_n 44 dX10_at_44 3 rfl ?_
      refine rw_iload_n 45 dX10_at_45 1 rfl ?_
      refine rn_cVpb 46 5 [.int v3, .int v1] dX10_at_46 caX5_isIn lX10_158 inX5_isIn slX5_isIn rfl ly_9 ⟨_, rfl, rfl⟩ rln_9 naX5_isIn (Nat.le_of_ble_eq_true rfl) (Nat.le_of_ble_eq_true rfl) (by decide) (fun _ hq => wX5_isIn 9 okX5_9 v3 v1 μ hq) h (fun q2 h => ?_)
      refine rn_ifb_eq 49 66 dX10_at_49 (by decide) h (fun _ h => ?_) (fun _ h => ?_)
      · refine rw_iinc 66 [(0, .ref 0), (1, .int v1), (2, .int v2), (3, .int (v3 + 1))] dX10_at_66 3 rfl rfl (by decide) rfl ?_
        refine rw_goto 69 29 dX10_at_69 (by decide) ?_
        exact ih (v3 + 1) h
      · refine rw_aload_n 52 dX10_at_52 0 rfl ?_
        refine rw_getR 53 10 9 kc10 dX10_at_53 ly_0 rln_0 fX10_68 rfl rf_0_9 ?_
        refine rw_iload_n 56 dX10_at_56 3 rfl ?_
        refine rw_iload_n 57 dX10_at_57 2 rfl ?_
        refine rn_cVpb 58 7 [.int v3, .int v2] dX10_at_58 caX7_isThere lX10_162 inX7_isThere slX7_isThere rfl ly_199 ⟨_, rfl, rfl⟩ rln_199 naX7_isThere (Nat.le_of_ble_eq_true rfl) (Nat.le_of_ble_eq_true rfl) (by decide) (fun _ hq => wX7_isThere 199 okX7_199 v3 v2 μ hq) h (fun q3 h => ?_)
        refine rn_ifb_eq 61 66 dX10_at_61 (by decide) h (fun _ h => ?_) (fun _ h => ?_)
        · refine rw_iinc 66 [(0, .ref 0), (1, .int v1), (2, .int v2), (3, .int (v3 + 1))] dX10_at_66 3 rfl rfl (by decide) rfl ?_
          refine rw_goto 69 29 dX10_at_69 (by decide) ?_
          exact ih (v3 + 1) h
        · refine rw_iload_n 64 dX10_at_64 3 rfl ?_
          exact rn_iret 65 dX10_at_65 rfl h
set_option maxRecDepth 100000 in
theorem wX10_at (a1 : Int32) (a2 : Int32) (μ : Mem) {res : Int32} (h : fX10_at a1 a2 μ = some res) : Ct mX10_at 2 NF NF [.ref 0, .int a1, .int a2] (μ, Rf0, NF) (QN (some (.int res)) μ Rf0 NF) := by
  unfold fX10_at at h
  show RW mX10_at 2 NF NF 0 [(0, .ref 0), (1, .int a1), (2, .int a2)] [] (μ, Rf0, NF) (QN (some (.int res)) μ Rf0 NF)
  refine rw_aload_n 0 dX10_at_0 0 rfl ?_
  refine rw_iload_n 1 dX10_at_1 1 rfl ?_
  refine rn_cVpb 2 10 [.int a1] dX10_at_2 caX10_isSunday lX10_107 inX10_isSunday slX10_isSunday rfl ly_0 ⟨_, rfl, rfl⟩ rln_0 naX10_isSunday (Nat.le_of_ble_eq_true rfl) (Nat.le_of_ble_eq_true rfl) (by decide) (fun _ hq => wX10_isSunday a1 μ hq) h (fun q1 h => ?_)
  refine rn_ifb_eq 5 25 dX10_at_5 (by decide) h (fun _ h => ?_) (fun _ h => ?_)
  · refine rw_iconst 25 (v := -1) dX10_at_25 (by decide) ?_
    exact rn_iret 26 dX10_at_26 rfl h
  · refine rw_iload_n 8 dX10_at_8 2 rfl ?_
    refine rn_if_lt 9 25 dX10_at_9 (by decide) h (fun _ h => ?_) (fun _ h => ?_)
    · refine rw_iconst 25 (v := -1) dX10_at_25 (by decide) ?_
      exact rn_iret 26 dX10_at_26 rfl h
    · refine rw_iload_n 12 dX10_at_12 2 rfl ?_
      refine rw_aload_n 13 dX10_at_13 0 rfl ?_
      refine rw_getR 14 10 9 kc10 dX10_at_14 ly_0 rln_0 fX10_68 rfl rf_0_9 ?_
      refine rw_getR 17 7 1 kc7 dX10_at_17 ly_199 rln_199 fX10_110 rfl rf_199_1 ?_
      refine rw_iload_n 20 dX10_at_20 1 rfl ?_
      refine rn_iald 21 dX10_at_21 ly_200 rln_200 h (fun h => ?_)
      refine rn_icmp_lt 22 27 dX10_at_22 (by decide) h (fun _ h => ?_) (fun _ h => ?_)
      · refine rw_iconst 27 (v := 0) dX10_at_27 (by decide) ?_
        refine rw_istore_n 28 [(0, .ref 0), (1, .int a1), (2, .int a2), (3, .int 0)] dX10_at_28 (by decide) rfl ?_
        refine wX10_at_29 a1 a2 μ _ (fun _ h => ?_) FU 0 h
        refine rw_bipush 72 (v := -2) dX10_at_72 (by decide) ?_
        exact rn_iret 74 dX10_at_74 rfl h
      · refine rw_iconst 25 (v := -1) dX10_at_25 (by decide) ?_
        exact rn_iret 26 dX10_at_26 rfl h
def fX7_isLongEnough (t0 : Nat) (a1 : Int32) (a2 : Int32) (μ : Mem) : Option (Bool) :=
  if inb a2 7 then
  if inb a2 7 then
  if inb a1 4 then
  if (μ.1 (t0 + 1) a1.toNatClampNeg) < ((μ.1 (t0 + 3) a2.toNatClampNeg) + (μ.1 (t0 + 4) a2.toNatClampNeg)) then
    some false
  else
    some true
  else none
  else none
  else none
set_option maxRecDepth 100000 in
theorem wX7_isLongEnough (t0 : Nat) (ht0 : okX7 Rf0 NF t0) (a1 : Int32) (a2 : Int32) (μ : Mem) {res : Bool} (h : fX7_isLongEnough t0 a1 a2 μ = some res) : Ct mX7_isLongEnough 1 NF NF [.ref t0, .int a1, .int a2] (μ, Rf0, NF) (QN (some (.int (b2i res))) μ Rf0 NF) := by
  unfold fX7_isLongEnough at h
  show RW mX7_isLongEnough 1 NF NF 0 [(0, .ref t0), (1, .int a1), (2, .int a2)] [] (μ, Rf0, NF) (QN (some (.int (b2i res))) μ Rf0 NF)
  refine rw_aload_n 0 dX7_isLongEnough_0 0 rfl ?_
  refine rw_getR 1 7 4 kc7 dX7_isLongEnough_1 (o7l ht0) (o7n ht0) fX7_25 rfl (o7r4 ht0) ?_
  refine rw_iload_n 4 dX7_isLongEnough_4 2 rfl ?_
  refine rn_iald 5 dX7_isLongEnough_5 (o7l4 ht0) (o7n4 ht0) h (fun h => ?_)
  refine rw_aload_n 6 dX7_isLongEnough_6 0 rfl ?_
  refine rw_getR 7 7 5 kc7 dX7_isLongEnough_7 (o7l ht0) (o7n ht0) fX7_28 rfl (o7r5 ht0) ?_
  refine rw_iload_n 10 dX7_isLongEnough_10 2 rfl ?_
  refine rn_iald 11 dX7_isLongEnough_11 (o7l5 ht0) (o7n5 ht0) h (fun h => ?_)
  refine rw_iadd 12 dX7_isLongEnough_12 ?_
  refine rw_aload_n 13 dX7_isLongEnough_13 0 rfl ?_
  refine rw_getR 14 7 1 kc7 dX7_isLongEnough_14 (o7l ht0) (o7n ht0) fX7_15 rfl (o7r1 ht0) ?_
  refine rw_iload_n 17 dX7_isLongEnough_17 1 rfl ?_
  refine rn_iald 18 dX7_isLongEnough_18 (o7l1 ht0) (o7n1 ht0) h (fun h => ?_)
  refine rn_icmp_gt 19 26 dX7_isLongEnough_19 (by decide) h (fun _ h => ?_) (fun _ h => ?_)
  · refine rw_iconst 26 (v := 0) dX7_isLongEnough_26 (by decide) ?_
    exact rn_zret 27 (v := false) dX7_isLongEnough_27 rfl h
  · refine rw_iconst 22 (v := 1) dX7_isLongEnough_22 (by decide) ?_
    refine rw_goto 23 27 dX7_isLongEnough_23 (by decide) ?_
    exact rn_zret 27 (v := true) dX7_isLongEnough_27 rfl h
def fX10_couldGoIn (a1 : Int32) (a2 : Int32) (a3 : Int32) (μ : Mem) : Option (Bool) :=
  (fX5_isDead 9 a1 μ).bind fun q1 =>
  if q1 = true then
    some false
  else
    (fX5_isSold 9 a2 μ).bind fun q2 =>
    if q2 = true then
      some false
    else
      (fX7_isLongEnough 199 a2 a1 μ).bind fun q3 =>
      if q3 = true then
        if inb a1 7 then
        if inb a2 4 then
        if (((μ.1 209 a1.toNatClampNeg) &&& (μ.1 10 a2.toNatClampNeg)) &&& (a3 ^^^ (-1))) = 0 then
          some true
        else
          some false
        else none
        else none
      else
        some false
set_option maxRecDepth 100000 in
theorem wX10_couldGoIn (a1 : Int32) (a2 : Int32) (a3 : Int32) (μ : Mem) {res : Bool} (h : fX10_couldGoIn a1 a2 a3 μ = some res) : Ct mX10_couldGoIn 2 NF NF [.ref 0, .int a1, .int a2, .int a3] (μ, Rf0, NF) (QN (some (.int (b2i res))) μ Rf0 NF) := by
  unfold fX10_couldGoIn at h
  show RW mX10_couldGoIn 2 NF NF 0 [(0, .ref 0), (1, .int a1), (2, .int a2), (3, .int a3)] [] (μ, Rf0, NF) (QN (some (.int (b2i res))) μ Rf0 NF)
  refine rw_aload_n 0 dX10_couldGoIn_0 0 rfl ?_
  refine rw_getR 1 10 2 kc10 dX10_couldGoIn_1 ly_0 rln_0 fX10_26 rfl rf_0_2 ?_
  refine rw_iload_n 4 dX10_couldGoIn_4 1 rfl ?_
  refine rn_cVpb 5 5 [.int a1] dX10_couldGoIn_5 caX5_isDead lX10_149 inX5_isDead slX5_isDead rfl ly_9 ⟨_, rfl, rfl⟩ rln_9 naX5_isDead (Nat.le_of_ble_eq_true rfl) (Nat.le_of_ble_eq_true rfl) (by decide) (fun _ hq => wX5_isDead 9 okX5_9 a1 μ hq) h (fun q1 h => ?_)
  refine rn_ifb_ne 8 64 dX10_couldGoIn_8 (by decide) h (fun _ h => ?_) (fun _ h => ?_)
  · refine rw_iconst 64 (v := 0) dX10_couldGoIn_64 (by decide) ?_
    exact rn_zret 65 (v := false) dX10_couldGoIn_65 rfl h
  · refine rw_aload_n 11 dX10_couldGoIn_11 0 rfl ?_
    refine rw_getR 12 10 2 kc10 dX10_couldGoIn_12 ly_0 rln_0 fX10_26 rfl rf_0_2 ?_
    refine rw_iload_n 15 dX10_couldGoIn_15 2 rfl ?_
    refine rn_cVpb 16 5 [.int a2] dX10_couldGoIn_16 caX5_isSold lX10_120 inX5_isSold slX5_isSold rfl ly_9 ⟨_, rfl, rfl⟩ rln_9 naX5_isSold (Nat.le_of_ble_eq_true rfl) (Nat.le_of_ble_eq_true rfl) (by decide) (fun _ hq => wX5_isSold 9 okX5_9 a2 μ hq) h (fun q2 h => ?_)
    refine rn_ifb_ne 19 64 dX10_couldGoIn_19 (by decide) h (fun _ h => ?_) (fun _ h => ?_)
    · refine rw_iconst 64 (v := 0) dX10_couldGoIn_64 (by decide) ?_
      exact rn_zret 65 (v := false) dX10_couldGoIn_65 rfl h
    · refine rw_aload_n 22 dX10_couldGoIn_22 0 rfl ?_
      refine rw_getR 23 10 9 kc10 dX10_couldGoIn_23 ly_0 rln_0 fX10_68 rfl rf_0_9 ?_
      refine rw_iload_n 26 dX10_couldGoIn_26 2 rfl ?_
      refine rw_iload_n 27 dX10_couldGoIn_27 1 rfl ?_
      refine rn_cVpb 28 7 [.int a2, .int a1] dX10_couldGoIn_28 caX7_isLongEnough lX10_317 inX7_isLongEnough slX7_isLongEnough rfl ly_199 ⟨_, rfl, rfl⟩ rln_199 naX7_isLongEnough (Nat.le_of_ble_eq_true rfl) (Nat.le_of_ble_eq_true rfl) (by decide) (fun _ hq => wX7_isLongEnough 199 okX7_199 a2 a1 μ hq) h (fun q3 h => ?_)
      refine rn_ifb_eq 31 64 dX10_couldGoIn_31 (by decide) h (fun _ h => ?_) (fun _ h => ?_)
      · refine rw_iconst 64 (v := 0) dX10_couldGoIn_64 (by decide) ?_
        exact rn_zret 65 (v := false) dX10_couldGoIn_65 rfl h
      · refine rw_aload_n 34 dX10_couldGoIn_34 0 rfl ?_
        refine rw_getR 35 10 9 kc10 dX10_couldGoIn_35 ly_0 rln_0 fX10_68 rfl rf_0_9 ?_
        refine rw_getR 38 7 11 kc7 dX10_couldGoIn_38 ly_199 rln_199 fX10_276 rfl rf_199_11 ?_
        refine rw_iload_n 41 dX10_couldGoIn_41 1 rfl ?_
        refine rn_iald 42 dX10_couldGoIn_42 ly_209 rln_209 h (fun h => ?_)
        refine rw_aload_n 43 dX10_couldGoIn_43 0 rfl ?_
        refine rw_getR 44 10 2 kc10 dX10_couldGoIn_44 ly_0 rln_0 fX10_26 rfl rf_0_2 ?_
        refine rw_getR 47 5 4 kc5 dX10_couldGoIn_47 ly_9 rln_9 fX10_123 rfl rf_9_4 ?_
        refine rw_iload_n 50 dX10_couldGoIn_50 2 rfl ?_
        refine rn_iald 51 dX10_couldGoIn_51 ly_10 rln_10 h (fun h => ?_)
        refine rw_iand 52 dX10_couldGoIn_52 ?_
        refine rw_iload_n 53 dX10_couldGoIn_53 3 rfl ?_
        refine rw_iconst 54 (v := -1) dX10_couldGoIn_54 (by decide) ?_
        refine rw_ixor 55 dX10_couldGoIn_55 ?_
        refine rw_iand 56 dX10_couldGoIn_56 ?_
        refine rn_if_ne 57 64 dX10_couldGoIn_57 (by decide) h (fun _ h => ?_) (fun _ h => ?_)
        · refine rw_iconst 64 (v := 0) dX10_couldGoIn_64 (by decide) ?_
          exact rn_zret 65 (v := false) dX10_couldGoIn_65 rfl h
        · refine rw_iconst 60 (v := 1) dX10_couldGoIn_60 (by decide) ?_
          refine rw_goto 61 65 dX10_couldGoIn_61 (by decide) ?_
          exact rn_zret 65 (v := true) dX10_couldGoIn_65 rfl h
def fX5_copyFrom_34 (t0 : Nat) (t1 : Nat)    (K : Mem → Option (Mem)) : Nat → Int32 → Mem → Option (Mem)
  | 0, _, _ => none
  | n + 1, v2, μ =>
    if v2 < 4 then
      if inb v2 4 then
      if inb v2 4 then nm (wI μ (t0 + 1) v2.toNatClampNeg (μ.1 (t1 + 1) v2.toNatClampNeg)) fun μ5 =>
      if inb v2 4 then
      if inb v2 4 then nm (wI μ5 (t0 + 2) v2.toNatClampNeg (μ5.1 (t1 + 2) v2.toNatClampNeg)) fun μ6 =>
      fX5_copyFrom_34 t0 t1 K n (v2 + 1) μ6
      else none
      else none
      else none
      else none
    else
      K μ
def fX5_copyFrom_71 (t0 : Nat) (t1 : Nat)    (K : Mem → Option (Mem)) : Nat → Int32 → Mem → Option (Mem)
  | 0, _, _ => none
  | n + 1, v2, μ =>
    if v2 < 7 then
      if inb v2 7 then
      if inb v2 7 then nm (wI μ (t0 + 3) v2.toNatClampNeg (μ.1 (t1 + 3) v2.toNatClampNeg)) fun μ8 =>
      fX5_copyFrom_71 t0 t1 K n (v2 + 1) μ8
      else none
      else none
    else
      K μ
def fX5_copyFrom (t0 : Nat) (t1 : Nat) (μ : Mem) : Option (Mem) :=
  nm (wI μ t0 0 (μ.1 t1 0)) fun μ1 =>
  nm (wI μ1 t0 1 (μ1.1 t1 1)) fun μ2 =>
  nm (wI μ2 t0 2 (μ2.1 t1 2)) fun μ3 =>
  nm (wI μ3 t0 3 (μ3.1 t1 3)) fun μ4 =>
  fX5_copyFrom_34 t0 t1 (fun μ7 =>
      fX5_copyFrom_71 t0 t1 (fun μ9 =>
          some μ9
      ) FU 0 μ7
  ) FU 0 μ4
set_option maxRecDepth 100000 in
theorem wX5_copyFrom_34 (t0 : Nat) (ht0 : okX5 Rf0 NF t0) (t1 : Nat) (ht1 : okX5 Rf0 NF t1)    (K : Mem → Option (Mem)) {res : Mem} (hK : ∀  (μ : Mem), K μ = some res → RW mX5_copyFrom 1 NF NF 69 [(0, .ref t0), (1, .ref t1)] [] (μ, Rf0, NF) (QN none res Rf0 NF)) : ∀ (n9 : Nat) (v2 : Int32) (μ : Mem), fX5_copyFrom_34 t0 t1 K n9 v2 μ = some res → RW mX5_copyFrom 1 NF NF 34 [(0, .ref t0), (1, .ref t1), (2, .int v2)] [] (μ, Rf0, NF) (QN none res Rf0 NF) := by
  intro n9
  induction n9 with
  | zero => intro _ _ h; cases h
  | succ n ih =>
    intro v2 μ h
    unfold fX5_copyFrom_34 at h
    refine rw_iload_n 34 dX5_copyFrom_34 2 rfl ?_
    refine rw_iconst 35 (v := 4) dX5_copyFrom_35 (by decide) ?_
    refine rn_icmp_ge 36 69 dX5_copyFrom_36 (by decide) h (fun _ h => ?_) (fun _ h => ?_)
    · refine rw_pick 69 [0, 1] rfl ?_
      exact hK μ h
    · refine rw_aload_n 39 dX5_copyFrom_39 0 rfl ?_
      refine rw_getR 40 5 4 kc5 dX5_copyFrom_40 (o5l ht0) (o5n ht0) fX5_24 rfl (o5r4 ht0) ?_
      refine rw_iload_n 43 dX5_copyFrom_43 2 rfl ?_
      refine rw_aload_n 44 dX5_copyFrom_44 1 rfl ?_
      refine rw_getR 45 5 4 kc5 dX5_copyFrom_45 (o5l ht1) (o5n ht1) fX5_24 rfl (o5r4 ht1) ?_
      refine rw_iload_n 48 dX5_copyFrom_48 2 rfl ?_
      refine rn_iald 49 dX5_copyFrom_49 (o5l4 ht1) (o5n4 ht1) h (fun h => ?_)
      refine rn_iast 50 dX5_copyFrom_50 (o5l4 ht0) (o5n4 ht0) h (fun μ5 h => ?_)
      refine rw_aload_n 51 dX5_copyFrom_51 0 rfl ?_
      refine rw_getR 52 5 5 kc5 dX5_copyFrom_52 (o5l ht0) (o5n ht0) fX5_28 rfl (o5r5 ht0) ?_
      refine rw_iload_n 55 dX5_copyFrom_55 2 rfl ?_
      refine rw_aload_n 56 dX5_copyFrom_56 1 rfl ?_
      refine rw_getR 57 5 5 kc5 dX5_copyFrom_57 (o5l ht1) (o5n ht1) fX5_28 rfl (o5r5 ht1) ?_
      refine rw_iload_n 60 dX5_copyFrom_60 2 rfl ?_
      refine rn_iald 61 dX5_copyFrom_61 (o5l5 ht1) (o5n5 ht1) h (fun h => ?_)
      refine rn_iast 62 dX5_copyFrom_62 (o5l5 ht0) (o5n5 ht0) h (fun μ6 h => ?_)
      refine rw_iinc 63 [(0, .ref t0), (1, .ref t1), (2, .int (v2 + 1))] dX5_copyFrom_63 2 rfl rfl (by decide) rfl ?_
      refine rw_goto 66 34 dX5_copyFrom_66 (by decide) ?_
      exact ih (v2 + 1) μ6 h
set_option maxRecDepth 100000 in
theorem wX5_copyFrom_71 (t0 : Nat) (ht0 : okX5 Rf0 NF t0) (t1 : Nat) (ht1 : okX5 Rf0 NF t1)    (K : Mem → Option (Mem)) {res : Mem} (hK : ∀  (μ : Mem), K μ = some res → RW mX5_copyFrom 1 NF NF 95 [] [] (μ, Rf0, NF) (QN none res Rf0 NF)) : ∀ (n9 : Nat) (v2 : Int32) (μ : Mem), fX5_copyFrom_71 t0 t1 K n9 v2 μ = some res → RW mX5_copyFrom 1 NF NF 71 [(0, .ref t0), (1, .ref t1), (2, .int v2)] [] (μ, Rf0, NF) (QN none res Rf0 NF) := by
  intro n9
  induction n9 with
  | zero => intro _ _ h; cases h
  | succ n ih =>
    intro v2 μ h
    unfold fX5_copyFrom_71 at h
    refine rw_iload_n 71 dX5_copyFrom_71 2 rfl ?_
    refine rw_bipush 72 (v := 7) dX5_copyFrom_72 (by decide) ?_
    refine rn_icmp_ge 74 95 dX5_copyFrom_74 (by decide) h (fun _ h => ?_) (fun _ h => ?_)
    · refine rw_pick 95 [] rfl ?_
      exact hK μ h
    · refine rw_aload_n 77 dX5_copyFrom_77 0 rfl ?_
      refine rw_getR 78 5 6 kc5 dX5_copyFrom_78 (o5l ht0) (o5n ht0) fX5_31 rfl (o5r6 ht0) ?_
      refine rw_iload_n 81 dX5_copyFrom_81 2 rfl ?_
      refine rw_aload_n 82 dX5_copyFrom_82 1 rfl ?_
      refine rw_getR 83 5 6 kc5 dX5_copyFrom_83 (o5l ht1) (o5n ht1) fX5_31 rfl (o5r6 ht1) ?_
      refine rw_iload_n 86 dX5_copyFrom_86 2 rfl ?_
      refine rn_iald 87 dX5_copyFrom_87 (o5l6 ht1) (o5n6 ht1) h (fun h => ?_)
      refine rn_iast 88 dX5_copyFrom_88 (o5l6 ht0) (o5n6 ht0) h (fun μ8 h => ?_)
      refine rw_iinc 89 [(0, .ref t0), (1, .ref t1), (2, .int (v2 + 1))] dX5_copyFrom_89 2 rfl rfl (by decide) rfl ?_
      refine rw_goto 92 71 dX5_copyFrom_92 (by decide) ?_
      exact ih (v2 + 1) μ8 h
set_option maxRecDepth 100000 in
theorem wX5_copyFrom (t0 : Nat) (ht0 : okX5 Rf0 NF t0) (t1 : Nat) (ht1 : okX5 Rf0 NF t1) (μ : Mem) {res : Mem} (h : fX5_copyFrom t0 t1 μ = some res) : Ct mX5_copyFrom 1 NF NF [.ref t0, .ref t1] (μ, Rf0, NF) (QN none res Rf0 NF) := by
  unfold fX5_copyFrom at h
  show RW mX5_copyFrom 1 NF NF 0 [(0, .ref t0), (1, .ref t1)] [] (μ, Rf0, NF) (QN none res Rf0 NF)
  refine rw_aload_n 0 dX5_copyFrom_0 0 rfl ?_
  refine rw_aload_n 1 dX5_copyFrom_1 1 rfl ?_
  refine rw_getI 2 5 0 kc5 dX5_copyFrom_2 (o5l ht1) (o5n ht1) fX5_9 rfl ?_
  refine rn_putI 5 5 0 kc5 dX5_copyFrom_5 (o5l ht0) (o5n ht0) fX5_9 (fun q hq => by cases hq; rfl) rfl rfl rfl h (fun μ1 h => ?_)
  refine rw_aload_n 8 dX5_copyFrom_8 0 rfl ?_
  refine rw_aload_n 9 dX5_copyFrom_9 1 rfl ?_
  refine rw_getI 10 5 1 kc5 dX5_copyFrom_10 (o5l ht1) (o5n ht1) fX5_15 rfl ?_
  refine rn_putI 13 5 1 kc5 dX5_copyFrom_13 (o5l ht0) (o5n ht0) fX5_15 (fun q hq => by cases hq; rfl) rfl rfl rfl h (fun μ2 h => ?_)
  refine rw_aload_n 16 dX5_copyFrom_16 0 rfl ?_
  refine rw_aload_n 17 dX5_copyFrom_17 1 rfl ?_
  refine rw_getI 18 5 2 kc5 dX5_copyFrom_18 (o5l ht1) (o5n ht1) fX5_18 rfl ?_
  refine rn_putI 21 5 2 kc5 dX5_copyFrom_21 (o5l ht0) (o5n ht0) fX5_18 (fun q hq => by cases hq; rfl) rfl rfl rfl h (fun μ3 h => ?_)
  refine rw_aload_n 24 dX5_copyFrom_24 0 rfl ?_
  refine rw_aload_n 25 dX5_copyFrom_25 1 rfl ?_
  refine rw_getI 26 5 3 kc5 dX5_copyFrom_26 (o5l ht1) (o5n ht1) fX5_21 rfl ?_
  refine rn_putI 29 5 3 kc5 dX5_copyFrom_29 (o5l ht0) (o5n ht0) fX5_21 (fun q hq => by cases hq; rfl) rfl rfl rfl h (fun μ4 h => ?_)
  refine rw_iconst 32 (v := 0) dX5_copyFrom_32 (by decide) ?_
  refine rw_istore_n 33 [(0, .ref t0), (1, .ref t1), (2, .int 0)] dX5_copyFrom_33 (by decide) rfl ?_
  refine wX5_copyFrom_34 t0 ht0 t1 ht1 _ (fun μ7 h => ?_) FU 0 μ4 h
  refine rw_iconst 69 (v := 0) dX5_copyFrom_69 (by decide) ?_
  refine rw_istore_n 70 [(0, .ref t0), (1, .ref t1), (2, .int 0)] dX5_copyFrom_70 (by decide) rfl ?_
  refine wX5_copyFrom_71 t0 ht0 t1 ht1 _ (fun μ9 h => ?_) FU 0 μ7 h
  exact rn_vret 95 dX5_copyFrom_95 rfl h
def fX9_keep (t1 : Nat) (μ : Mem) : Option (Mem) :=
  if inb (μ.1 17 2) 40 then
  (fX5_copyFrom (19 + 4 * (μ.1 17 2).toNatClampNeg) t1 μ).bind fun q2 =>
  nm (wI q2 17 2 (irm ((q2.1 17 2) + 1) 40)) fun μ3 =>
  nm (wI μ3 17 0 (mnI 40 ((μ3.1 17 0) + 1))) fun μ4 =>
  some μ4
  else none
set_option maxRecDepth 100000 in
theorem wX9_keep (t1 : Nat) (ht1 : okX5 Rf0 NF t1) (μ : Mem) {res : Mem} (h : fX9_keep t1 μ = some res) : Ct mX9_keep 2 NF NF [.ref 17, .ref t1] (μ, Rf0, NF) (QN none res Rf0 NF) := by
  unfold fX9_keep at h
  show RW mX9_keep 2 NF NF 0 [(0, .ref 17), (1, .ref t1)] [] (μ, Rf0, NF) (QN none res Rf0 NF)
  refine rw_aload_n 0 dX9_keep_0 0 rfl ?_
  refine rw_getR 1 9 1 kc9 dX9_keep_1 ly_17 rln_17 fX9_17 rfl rf_17_1 ?_
  refine rw_aload_n 4 dX9_keep_4 0 rfl ?_
  refine rw_getI 5 9 2 kc9 dX9_keep_5 ly_17 rln_17 fX9_21 rfl ?_
  refine rn_aald 8 4 (by decide) dX9_keep_8 ly_18 rln_18 h (fun hi1 => (rfr_18 _ (inb_lt hi1))) (fun hi1 h => ?_)
  refine rw_aload_n 9 dX9_keep_9 1 rfl ?_
  refine rn_cVmv 10 5 [.ref t1] dX9_keep_10 caX5_copyFrom lX9_25 inX5_copyFrom slX5_copyFrom rfl (o5l (okr_18 _ (inb_lt hi1))) ⟨_, rfl, rfl⟩ (o5n (okr_18 _ (inb_lt hi1))) naX5_copyFrom (Nat.le_of_ble_eq_true rfl) (Nat.le_of_ble_eq_true rfl) (by decide) (fun _ hq => wX5_copyFrom (19 + 4 * (μ.1 17 2).toNatClampNeg) (okr_18 _ (inb_lt hi1)) t1 ht1 μ hq) h (fun q2 h => ?_)
  refine rw_aload_n 13 dX9_keep_13 0 rfl ?_
  refine rw_aload_n 14 dX9_keep_14 0 rfl ?_
  refine rw_getI 15 9 2 kc9 dX9_keep_15 ly_17 rln_17 fX9_21 rfl ?_
  refine rw_iconst 18 (v := 1) dX9_keep_18 (by decide) ?_
  refine rw_iadd 19 dX9_keep_19 ?_
  refine rw_bipush 20 (v := 40) dX9_keep_20 (by decide) ?_
  refine rw_irem 22 dX9_keep_22 (by decide) ?_
  refine rn_putI 23 9 2 kc9 dX9_keep_23 ly_17 rln_17 fX9_21 (fun q hq => by cases hq; rfl) rfl rfl rfl h (fun μ3 h => ?_)
  refine rw_aload_n 26 dX9_keep_26 0 rfl ?_
  refine rw_bipush 27 (v := 40) dX9_keep_27 (by decide) ?_
  refine rw_aload_n 29 dX9_keep_29 0 rfl ?_
  refine rw_getI 30 9 0 kc9 dX9_keep_30 ly_17 rln_17 fX9_9 rfl ?_
  refine rw_iconst 33 (v := 1) dX9_keep_33 (by decide) ?_
  refine rw_iadd 34 dX9_keep_34 ?_
  refine rw_mmin 35 dX9_keep_35 lX9_29 stJ9_min_7cf53 iiJ9_min_7cf53 coJ9_min_7cf53 (by decide) (Nat.le_of_ble_eq_true rfl) ?_
  refine rn_putI 38 9 0 kc9 dX9_keep_38 ly_17 rln_17 fX9_9 (fun q hq => by cases hq; rfl) rfl rfl rfl h (fun μ4 h => ?_)
  exact rn_vret 41 dX9_keep_41 rfl h
def fX10_letIn (a1 : Int32) (a2 : Int32) (μ : Mem) : Option (Bool × Mem) :=
  (fX10_isGuest a1 μ).bind fun q1 =>
  if q1 = true then
    (fX10_isSunday a2 μ).bind fun q2 =>
    if q2 = true then
      (fX5_whereIs 9 a1 μ).bind fun q3 =>
      if q3 = (-2) then
        (fX10_couldGoIn a1 a2 0 μ).bind fun q4 =>
        if q4 = true then
          (fX9_keep 9 μ).bind fun q5 =>
          if inb a2 4 then
          if inb a2 4 then nm (wI q5 10 a2.toNatClampNeg ((q5.1 10 a2.toNatClampNeg) ||| ((1 : Int32) <<< (a1 &&& 31)))) fun μ6 =>
          some (true, μ6)
          else none
          else none
        else
          some (false, μ)
      else
        some (false, μ)
    else
      some (false, μ)
  else
    some (false, μ)
set_option maxRecDepth 100000 in
theorem wX10_letIn (a1 : Int32) (a2 : Int32) (μ : Mem) {res : Bool × Mem} (h : fX10_letIn a1 a2 μ = some res) : Ct mX10_letIn 3 NF NF [.ref 0, .int a1, .int a2] (μ, Rf0, NF) (QN (some (.int (b2i res.1))) res.2 Rf0 NF) := by
  unfold fX10_letIn at h
  show RW mX10_letIn 3 NF NF 0 [(0, .ref 0), (1, .int a1), (2, .int a2)] [] (μ, Rf0, NF) (QN (some (.int (b2i res.1))) res.2 Rf0 NF)
  refine rw_aload_n 0 dX10_letIn_0 0 rfl ?_
  refine rw_iload_n 1 dX10_letIn_1 1 rfl ?_
  refine rn_cVpb 2 10 [.int a1] dX10_letIn_2 caX10_isGuest lX10_130 inX10_isGuest slX10_isGuest rfl ly_0 ⟨_, rfl, rfl⟩ rln_0 naX10_isGuest (Nat.le_of_ble_eq_true rfl) (Nat.le_of_ble_eq_true rfl) (by decide) (fun _ hq => wX10_isGuest a1 μ hq) h (fun q1 h => ?_)
  refine rn_ifb_eq 5 16 dX10_letIn_5 (by decide) h (fun _ h => ?_) (fun _ h => ?_)
  · refine rw_iconst 16 (v := 0) dX10_letIn_16 (by decide) ?_
    exact rn_zret2 17 (v := false) dX10_letIn_17 rfl h
  · refine rw_aload_n 8 dX10_letIn_8 0 rfl ?_
    refine rw_iload_n 9 dX10_letIn_9 2 rfl ?_
    refine rn_cVpb 10 10 [.int a2] dX10_letIn_10 caX10_isSunday lX10_107 inX10_isSunday slX10_isSunday rfl ly_0 ⟨_, rfl, rfl⟩ rln_0 naX10_isSunday (Nat.le_of_ble_eq_true rfl) (Nat.le_of_ble_eq_true rfl) (by decide) (fun _ hq => wX10_isSunday a2 μ hq) h (fun q2 h => ?_)
    refine rn_ifb_ne 13 18 dX10_letIn_13 (by decide) h (fun _ h => ?_) (fun _ h => ?_)
    · refine rw_aload_n 18 dX10_letIn_18 0 rfl ?_
      refine rw_getR 19 10 2 kc10 dX10_letIn_19 ly_0 rln_0 fX10_26 rfl rf_0_2 ?_
      refine rw_iload_n 22 dX10_letIn_22 1 rfl ?_
      refine rn_cVpi 23 5 [.int a1] dX10_letIn_23 caX5_whereIs lX10_142 inX5_whereIs slX5_whereIs rfl ly_9 ⟨_, rfl, rfl⟩ rln_9 naX5_whereIs (Nat.le_of_ble_eq_true rfl) (Nat.le_of_ble_eq_true rfl) (by decide) (fun _ hq => wX5_whereIs 9 okX5_9 a1 μ hq) h (fun q3 h => ?_)
      refine rw_bipush 26 (v := -2) dX10_letIn_26 (by decide) ?_
      refine rn_icmp_ne 28 41 dX10_letIn_28 (by decide) h (fun _ h => ?_) (fun _ h => ?_)
      · refine rw_iconst 41 (v := 0) dX10_letIn_41 (by decide) ?_
        exact rn_zret2 42 (v := false) dX10_letIn_42 rfl h
      · refine rw_aload_n 31 dX10_letIn_31 0 rfl ?_
        refine rw_iload_n 32 dX10_letIn_32 1 rfl ?_
        refine rw_iload_n 33 dX10_letIn_33 2 rfl ?_
        refine rw_iconst 34 (v := 0) dX10_letIn_34 (by decide) ?_
        refine rn_cVpb 35 10 [.int a1, .int a2, .int 0] dX10_letIn_35 caX10_couldGoIn lX10_165 inX10_couldGoIn slX10_couldGoIn rfl ly_0 ⟨_, rfl, rfl⟩ rln_0 naX10_couldGoIn (Nat.le_of_ble_eq_true rfl) (Nat.le_of_ble_eq_true rfl) (by decide) (fun _ hq => wX10_couldGoIn a1 a2 0 μ hq) h (fun q4 h => ?_)
        refine rn_ifb_ne 38 43 dX10_letIn_38 (by decide) h (fun _ h => ?_) (fun _ h => ?_)
        · refine rw_aload_n 43 dX10_letIn_43 0 rfl ?_
          refine rw_getR 44 10 4 kc10 dX10_letIn_44 ly_0 rln_0 fX10_36 rfl rf_0_4 ?_
          refine rw_aload_n 47 dX10_letIn_47 0 rfl ?_
          refine rw_getR 48 10 2 kc10 dX10_letIn_48 ly_0 rln_0 fX10_26 rfl rf_0_2 ?_
          refine rn_cVmv 51 9 [.ref 9] dX10_letIn_51 caX9_keep lX10_169 inX9_keep slX9_keep rfl ly_17 ⟨_, rfl, rfl⟩ rln_17 naX9_keep (Nat.le_of_ble_eq_true rfl) (Nat.le_of_ble_eq_true rfl) (by decide) (fun _ hq => wX9_keep 9 okX5_9 μ hq) h (fun q5 h => ?_)
          refine rw_aload_n 54 dX10_letIn_54 0 rfl ?_
          refine rw_getR 55 10 2 kc10 dX10_letIn_55 ly_0 rln_0 fX10_26 rfl rf_0_2 ?_
          refine rw_getR 58 5 4 kc5 dX10_letIn_58 ly_9 rln_9 fX10_123 rfl rf_9_4 ?_
          refine rw_iload_n 61 dX10_letIn_61 2 rfl ?_
          refine rw_dup2 62 dX10_letIn_62 rfl rfl ?_
          refine rn_iald 63 dX10_letIn_63 ly_10 rln_10 h (fun h => ?_)
          refine rw_iconst 64 (v := 1) dX10_letIn_64 (by decide) ?_
          refine rw_iload_n 65 dX10_letIn_65 1 rfl ?_
          refine rw_ishl 66 dX10_letIn_66 ?_
          refine rw_ior 67 dX10_letIn_67 ?_
          refine rn_iast 68 dX10_letIn_68 ly_10 rln_10 h (fun μ6 h => ?_)
          refine rw_iconst 69 (v := 1) dX10_letIn_69 (by decide) ?_
          exact rn_zret2 70 (v := true) dX10_letIn_70 rfl h
        · refine rw_iconst 41 (v := 0) dX10_letIn_41 (by decide) ?_
          exact rn_zret2 42 (v := false) dX10_letIn_42 rfl h
    · refine rw_iconst 16 (v := 0) dX10_letIn_16 (by decide) ?_
      exact rn_zret2 17 (v := false) dX10_letIn_17 rfl h
def fX5_takeOut_2 (t0 : Nat)  (v1 : Int32)  (K : Mem → Option (Mem)) : Nat → Int32 → Mem → Option (Mem)
  | 0, _, _ => none
  | n + 1, v2, μ =>
    if v2 < 4 then
      if inb v2 4 then
      if inb v2 4 then nm (wI μ (t0 + 1) v2.toNatClampNeg ((μ.1 (t0 + 1) v2.toNatClampNeg) &&& (((1 : Int32) <<< (v1 &&& 31)) ^^^ (-1)))) fun μ1 =>
      fX5_takeOut_2 t0 v1 K n (v2 + 1) μ1
      else none
      else none
    else
      K μ
def fX5_takeOut (t0 : Nat) (a1 : Int32) (μ : Mem) : Option (Mem) :=
  fX5_takeOut_2 t0 a1 (fun μ2 =>
      some μ2
  ) FU 0 μ
set_option maxRecDepth 100000 in
theorem wX5_takeOut_2 (t0 : Nat) (ht0 : okX5 Rf0 NF t0)  (v1 : Int32)  (K : Mem → Option (Mem)) {res : Mem} (hK : ∀  (μ : Mem), K μ = some res → RW mX5_takeOut 1 NF NF 27 [] [] (μ, Rf0, NF) (QN none res Rf0 NF)) : ∀ (n9 : Nat) (v2 : Int32) (μ : Mem), fX5_takeOut_2 t0 v1 K n9 v2 μ = some res → RW mX5_takeOut 1 NF NF 2 [(0, .ref t0), (1, .int v1), (2, .int v2)] [] (μ, Rf0, NF) (QN none res Rf0 NF) := by
  intro n9
  induction n9 with
  | zero => intro _ _ h; cases h
  | succ n ih =>
    intro v2 μ h
    unfold fX5_takeOut_2 at h
    refine rw_iload_n 2 dX5_takeOut_2 2 rfl ?_
    refine rw_iconst 3 (v := 4) dX5_takeOut_3 (by decide) ?_
    refine rn_icmp_ge 4 27 dX5_takeOut_4 (by decide) h (fun _ h => ?_) (fun _ h => ?_)
    · refine rw_pick 27 [] rfl ?_
      exact hK μ h
    · refine rw_aload_n 7 dX5_takeOut_7 0 rfl ?_
      refine rw_getR 8 5 4 kc5 dX5_takeOut_8 (o5l ht0) (o5n ht0) fX5_24 rfl (o5r4 ht0) ?_
      refine rw_iload_n 11 dX5_takeOut_11 2 rfl ?_
      refine rw_dup2 12 dX5_takeOut_12 rfl rfl ?_
      refine rn_iald 13 dX5_takeOut_13 (o5l4 ht0) (o5n4 ht0) h (fun h => ?_)
      refine rw_iconst 14 (v := 1) dX5_takeOut_14 (by decide) ?_
      refine rw_iload_n 15 dX5_takeOut_15 1 rfl ?_
      refine rw_ishl 16 dX5_takeOut_16 ?_
      refine rw_iconst 17 (v := -1) dX5_takeOut_17 (by decide) ?_
      refine rw_ixor 18 dX5_takeOut_18 ?_
      refine rw_iand 19 dX5_takeOut_19 ?_
      refine rn_iast 20 dX5_takeOut_20 (o5l4 ht0) (o5n4 ht0) h (fun μ1 h => ?_)
      refine rw_iinc 21 [(0, .ref t0), (1, .int v1), (2, .int (v2 + 1))] dX5_takeOut_21 2 rfl rfl (by decide) rfl ?_
      refine rw_goto 24 2 dX5_takeOut_24 (by decide) ?_
      exact ih (v2 + 1) μ1 h
set_option maxRecDepth 100000 in
theorem wX5_takeOut (t0 : Nat) (ht0 : okX5 Rf0 NF t0) (a1 : Int32) (μ : Mem) {res : Mem} (h : fX5_takeOut t0 a1 μ = some res) : Ct mX5_takeOut 1 NF NF [.ref t0, .int a1] (μ, Rf0, NF) (QN none res Rf0 NF) := by
  unfold fX5_takeOut at h
  show RW mX5_takeOut 1 NF NF 0 [(0, .ref t0), (1, .int a1)] [] (μ, Rf0, NF) (QN none res Rf0 NF)
  refine rw_iconst 0 (v := 0) dX5_takeOut_0 (by decide) ?_
  refine rw_istore_n 1 [(0, .ref t0), (1, .int a1), (2, .int 0)] dX5_takeOut_1 (by decide) rfl ?_
  refine wX5_takeOut_2 t0 ht0 a1 _ (fun μ2 h => ?_) FU 0 μ h
  exact rn_vret 27 dX5_takeOut_27 rfl h
def fX10_putOut (a1 : Int32) (μ : Mem) : Option (Bool × Mem) :=
  (fX10_isGuest a1 μ).bind fun q1 =>
  if q1 = true then
    (fX5_whereIs 9 a1 μ).bind fun q2 =>
    if q2 = (-2) then
      some (false, μ)
    else
      (fX9_keep 9 μ).bind fun q3 =>
      (fX5_takeOut 9 a1 q3).bind fun q4 =>
      some (true, q4)
  else
    some (false, μ)
set_option maxRecDepth 100000 in
theorem wX10_putOut (a1 : Int32) (μ : Mem) {res : Bool × Mem} (h : fX10_putOut a1 μ = some res) : Ct mX10_putOut 3 NF NF [.ref 0, .int a1] (μ, Rf0, NF) (QN (some (.int (b2i res.1))) res.2 Rf0 NF) := by
  unfold fX10_putOut at h
  show RW mX10_putOut 3 NF NF 0 [(0, .ref 0), (1, .int a1)] [] (μ, Rf0, NF) (QN (some (.int (b2i res.1))) res.2 Rf0 NF)
  refine rw_aload_n 0 dX10_putOut_0 0 rfl ?_
  refine rw_iload_n 1 dX10_putOut_1 1 rfl ?_
  refine rn_cVpb 2 10 [.int a1] dX10_putOut_2 caX10_isGuest lX10_130 inX10_isGuest slX10_isGuest rfl ly_0 ⟨_, rfl, rfl⟩ rln_0 naX10_isGuest (Nat.le_of_ble_eq_true rfl) (Nat.le_of_ble_eq_true rfl) (by decide) (fun _ hq => wX10_isGuest a1 μ hq) h (fun q1 h => ?_)
  refine rn_ifb_eq 5 21 dX10_putOut_5 (by decide) h (fun _ h => ?_) (fun _ h => ?_)
  · refine rw_iconst 21 (v := 0) dX10_putOut_21 (by decide) ?_
    exact rn_zret2 22 (v := false) dX10_putOut_22 rfl h
  · refine rw_aload_n 8 dX10_putOut_8 0 rfl ?_
    refine rw_getR 9 10 2 kc10 dX10_putOut_9 ly_0 rln_0 fX10_26 rfl rf_0_2 ?_
    refine rw_iload_n 12 dX10_putOut_12 1 rfl ?_
    refine rn_cVpi 13 5 [.int a1] dX10_putOut_13 caX5_whereIs lX10_142 inX5_whereIs slX5_whereIs rfl ly_9 ⟨_, rfl, rfl⟩ rln_9 naX5_whereIs (Nat.le_of_ble_eq_true rfl) (Nat.le_of_ble_eq_true rfl) (by decide) (fun _ hq => wX5_whereIs 9 okX5_9 a1 μ hq) h (fun q2 h => ?_)
    refine rw_bipush 16 (v := -2) dX10_putOut_16 (by decide) ?_
    refine rn_icmp_ne 18 23 dX10_putOut_18 (by decide) h (fun _ h => ?_) (fun _ h => ?_)
    · refine rw_aload_n 23 dX10_putOut_23 0 rfl ?_
      refine rw_getR 24 10 4 kc10 dX10_putOut_24 ly_0 rln_0 fX10_36 rfl rf_0_4 ?_
      refine rw_aload_n 27 dX10_putOut_27 0 rfl ?_
      refine rw_getR 28 10 2 kc10 dX10_putOut_28 ly_0 rln_0 fX10_26 rfl rf_0_2 ?_
      refine rn_cVmv 31 9 [.ref 9] dX10_putOut_31 caX9_keep lX10_169 inX9_keep slX9_keep rfl ly_17 ⟨_, rfl, rfl⟩ rln_17 naX9_keep (Nat.le_of_ble_eq_true rfl) (Nat.le_of_ble_eq_true rfl) (by decide) (fun _ hq => wX9_keep 9 okX5_9 μ hq) h (fun q3 h => ?_)
      refine rw_aload_n 34 dX10_putOut_34 0 rfl ?_
      refine rw_getR 35 10 2 kc10 dX10_putOut_35 ly_0 rln_0 fX10_26 rfl rf_0_2 ?_
      refine rw_iload_n 38 dX10_putOut_38 1 rfl ?_
      refine rn_cVmv 39 5 [.int a1] dX10_putOut_39 caX5_takeOut lX10_173 inX5_takeOut slX5_takeOut rfl ly_9 ⟨_, rfl, rfl⟩ rln_9 naX5_takeOut (Nat.le_of_ble_eq_true rfl) (Nat.le_of_ble_eq_true rfl) (by decide) (fun _ hq => wX5_takeOut 9 okX5_9 a1 q3 hq) h (fun q4 h => ?_)
      refine rw_iconst 42 (v := 1) dX10_putOut_42 (by decide) ?_
      exact rn_zret2 43 (v := true) dX10_putOut_43 rfl h
    · refine rw_iconst 21 (v := 0) dX10_putOut_21 (by decide) ?_
      exact rn_zret2 22 (v := false) dX10_putOut_22 rfl h
def fX10_sell (a1 : Int32) (μ : Mem) : Option (Int32 × Mem) :=
  (fX10_isSunday a1 μ).bind fun q1 =>
  if q1 = true then
    if inb a1 4 then
    if (μ.1 10 a1.toNatClampNeg) = 0 then
      (fX5_isSold 9 a1 μ).bind fun q2 =>
      if q2 = true then
        some ((-1), μ)
      else
        (fX9_keep 9 μ).bind fun q3 =>
        (fX1_ofSunday 3 199 9 a1 q3).bind fun q4 =>
        nm (wI q4.2 9 3 ((q4.2.1 9 3) ||| ((1 : Int32) <<< (a1 &&& 31)))) fun μ5 =>
        nm (wI μ5 9 1 ((μ5.1 9 1) + q4.1)) fun μ6 =>
        some (q4.1, μ6)
    else
      some ((-1), μ)
    else none
  else
    some ((-1), μ)
set_option maxRecDepth 100000 in
theorem wX10_sell (a1 : Int32) (μ : Mem) {res : Int32 × Mem} (h : fX10_sell a1 μ = some res) : Ct mX10_sell 5 NF NF [.ref 0, .int a1] (μ, Rf0, NF) (QN (some (.int res.1)) res.2 Rf0 NF) := by
  unfold fX10_sell at h
  show RW mX10_sell 5 NF NF 0 [(0, .ref 0), (1, .int a1)] [] (μ, Rf0, NF) (QN (some (.int res.1)) res.2 Rf0 NF)
  refine rw_aload_n 0 dX10_sell_0 0 rfl ?_
  refine rw_iload_n 1 dX10_sell_1 1 rfl ?_
  refine rn_cVpb 2 10 [.int a1] dX10_sell_2 caX10_isSunday lX10_107 inX10_isSunday slX10_isSunday rfl ly_0 ⟨_, rfl, rfl⟩ rln_0 naX10_isSunday (Nat.le_of_ble_eq_true rfl) (Nat.le_of_ble_eq_true rfl) (by decide) (fun _ hq => wX10_isSunday a1 μ hq) h (fun q1 h => ?_)
  refine rn_ifb_eq 5 31 dX10_sell_5 (by decide) h (fun _ h => ?_) (fun _ h => ?_)
  · refine rw_iconst 31 (v := -1) dX10_sell_31 (by decide) ?_
    exact rn_iret2 32 dX10_sell_32 rfl h
  · refine rw_aload_n 8 dX10_sell_8 0 rfl ?_
    refine rw_getR 9 10 2 kc10 dX10_sell_9 ly_0 rln_0 fX10_26 rfl rf_0_2 ?_
    refine rw_getR 12 5 4 kc5 dX10_sell_12 ly_9 rln_9 fX10_123 rfl rf_9_4 ?_
    refine rw_iload_n 15 dX10_sell_15 1 rfl ?_
    refine rn_iald 16 dX10_sell_16 ly_10 rln_10 h (fun h => ?_)
    refine rn_if_ne 17 31 dX10_sell_17 (by decide) h (fun _ h => ?_) (fun _ h => ?_)
    · refine rw_iconst 31 (v := -1) dX10_sell_31 (by decide) ?_
      exact rn_iret2 32 dX10_sell_32 rfl h
    · refine rw_aload_n 20 dX10_sell_20 0 rfl ?_
      refine rw_getR 21 10 2 kc10 dX10_sell_21 ly_0 rln_0 fX10_26 rfl rf_0_2 ?_
      refine rw_iload_n 24 dX10_sell_24 1 rfl ?_
      refine rn_cVpb 25 5 [.int a1] dX10_sell_25 caX5_isSold lX10_120 inX5_isSold slX5_isSold rfl ly_9 ⟨_, rfl, rfl⟩ rln_9 naX5_isSold (Nat.le_of_ble_eq_true rfl) (Nat.le_of_ble_eq_true rfl) (by decide) (fun _ hq => wX5_isSold 9 okX5_9 a1 μ hq) h (fun q2 h => ?_)
      refine rn_ifb_eq 28 33 dX10_sell_28 (by decide) h (fun _ h => ?_) (fun _ h => ?_)
      · refine rw_aload_n 33 dX10_sell_33 0 rfl ?_
        refine rw_getR 34 10 4 kc10 dX10_sell_34 ly_0 rln_0 fX10_36 rfl rf_0_4 ?_
        refine rw_aload_n 37 dX10_sell_37 0 rfl ?_
        refine rw_getR 38 10 2 kc10 dX10_sell_38 ly_0 rln_0 fX10_26 rfl rf_0_2 ?_
        refine rn_cVmv 41 9 [.ref 9] dX10_sell_41 caX9_keep lX10_169 inX9_keep slX9_keep rfl ly_17 ⟨_, rfl, rfl⟩ rln_17 naX9_keep (Nat.le_of_ble_eq_true rfl) (Nat.le_of_ble_eq_true rfl) (by decide) (fun _ hq => wX9_keep 9 okX5_9 μ hq) h (fun q3 h => ?_)
        refine rw_aload_n 44 dX10_sell_44 0 rfl ?_
        refine rw_getR 45 10 6 kc10 dX10_sell_45 ly_0 rln_0 fX10_47 rfl rf_0_6 ?_
        refine rw_iconst 48 (v := 3) dX10_sell_48 (by decide) ?_
        refine rw_aload_n 49 dX10_sell_49 0 rfl ?_
        refine rw_getR 50 10 9 kc10 dX10_sell_50 ly_0 rln_0 fX10_68 rfl rf_0_9 ?_
        refine rw_aload_n 53 dX10_sell_53 0 rfl ?_
        refine rw_getR 54 10 2 kc10 dX10_sell_54 ly_0 rln_0 fX10_26 rfl rf_0_2 ?_
        refine rw_iload_n 57 dX10_sell_57 1 rfl ?_
        refine rn_cVmi 58 1 [.int 3, .ref 199, .ref 9, .int a1] dX10_sell_58 caX1_ofSunday lX10_126 inX1_ofSunday slX1_ofSunday rfl ly_180 ⟨_, rfl, rfl⟩ rln_180 naX1_ofSunday (Nat.le_of_ble_eq_true rfl) (Nat.le_of_ble_eq_true rfl) (by decide) (fun _ hq => wX1_ofSunday 3 199 okX7_199 9 okX5_9 a1 q3 hq) h (fun q4 h => ?_)
        refine rw_istore_n 61 [(0, .ref 0), (1, .int a1), (2, .int q4.1)] dX10_sell_61 (by decide) rfl ?_
        refine rw_aload_n 62 dX10_sell_62 0 rfl ?_
        refine rw_getR 63 10 2 kc10 dX10_sell_63 ly_0 rln_0 fX10_26 rfl rf_0_2 ?_
        refine rw_dup 66 dX10_sell_66 rfl ?_
        refine rw_getI 67 5 3 kc5 dX10_sell_67 ly_9 rln_9 fX10_176 rfl ?_
        refine rw_iconst 70 (v := 1) dX10_sell_70 (by decide) ?_
        refine rw_iload_n 71 dX10_sell_71 1 rfl ?_
        refine rw_ishl 72 dX10_sell_72 ?_
        refine rw_ior 73 dX10_sell_73 ?_
        refine rn_putI 74 5 3 kc5 dX10_sell_74 ly_9 rln_9 fX10_176 (fun q hq => by cases hq; rfl) rfl rfl rfl h (fun μ5 h => ?_)
        refine rw_aload_n 77 dX10_sell_77 0 rfl ?_
        refine rw_getR 78 10 2 kc10 dX10_sell_78 ly_0 rln_0 fX10_26 rfl rf_0_2 ?_
        refine rw_dup 81 dX10_sell_81 rfl ?_
        refine rw_getI 82 5 1 kc5 dX10_sell_82 ly_9 rln_9 fX10_179 rfl ?_
        refine rw_iload_n 85 dX10_sell_85 2 rfl ?_
        refine rw_iadd 86 dX10_sell_86 ?_
        refine rn_putI 87 5 1 kc5 dX10_sell_87 ly_9 rln_9 fX10_179 (fun q hq => by cases hq; rfl) rfl rfl rfl h (fun μ6 h => ?_)
        refine rw_iload_n 90 dX10_sell_90 2 rfl ?_
        exact rn_iret2 91 dX10_sell_91 rfl h
      · refine rw_iconst 31 (v := -1) dX10_sell_31 (by decide) ?_
        exact rn_iret2 32 dX10_sell_32 rfl h
def fX10_air (a1 : Int32) (μ : Mem) : Option (Bool × Mem) :=
  (fX10_isSunday a1 μ).bind fun q1 =>
  if q1 = true then
    if inb a1 4 then
    if (μ.1 10 a1.toNatClampNeg) = 0 then
      (fX5_isSold 9 a1 μ).bind fun q2 =>
      if q2 = true then
        some (false, μ)
      else
        if inb a1 4 then
        if (μ.1 11 a1.toNatClampNeg) = 0 then
          some (false, μ)
        else
          (fX9_keep 9 μ).bind fun q3 =>
          if inb a1 4 then nm (wI q3 11 a1.toNatClampNeg 0) fun μ4 =>
          if 0 < (μ4.1 9 1) then
            nm (wI μ4 9 1 ((μ4.1 9 1) - 1)) fun μ5 =>
            some (true, μ5)
          else
            some (true, μ4)
          else none
        else none
    else
      some (false, μ)
    else none
  else
    some (false, μ)
set_option maxRecDepth 100000 in
theorem wX10_air (a1 : Int32) (μ : Mem) {res : Bool × Mem} (h : fX10_air a1 μ = some res) : Ct mX10_air 3 NF NF [.ref 0, .int a1] (μ, Rf0, NF) (QN (some (.int (b2i res.1))) res.2 Rf0 NF) := by
  unfold fX10_air at h
  show RW mX10_air 3 NF NF 0 [(0, .ref 0), (1, .int a1)] [] (μ, Rf0, NF) (QN (some (.int (b2i res.1))) res.2 Rf0 NF)
  refine rw_aload_n 0 dX10_air_0 0 rfl ?_
  refine rw_iload_n 1 dX10_air_1 1 rfl ?_
  refine rn_cVpb 2 10 [.int a1] dX10_air_2 caX10_isSunday lX10_107 inX10_isSunday slX10_isSunday rfl ly_0 ⟨_, rfl, rfl⟩ rln_0 naX10_isSunday (Nat.le_of_ble_eq_true rfl) (Nat.le_of_ble_eq_true rfl) (by decide) (fun _ hq => wX10_isSunday a1 μ hq) h (fun q1 h => ?_)
  refine rn_ifb_eq 5 43 dX10_air_5 (by decide) h (fun _ h => ?_) (fun _ h => ?_)
  · refine rw_iconst 43 (v := 0) dX10_air_43 (by decide) ?_
    exact rn_zret2 44 (v := false) dX10_air_44 rfl h
  · refine rw_aload_n 8 dX10_air_8 0 rfl ?_
    refine rw_getR 9 10 2 kc10 dX10_air_9 ly_0 rln_0 fX10_26 rfl rf_0_2 ?_
    refine rw_getR 12 5 4 kc5 dX10_air_12 ly_9 rln_9 fX10_123 rfl rf_9_4 ?_
    refine rw_iload_n 15 dX10_air_15 1 rfl ?_
    refine rn_iald 16 dX10_air_16 ly_10 rln_10 h (fun h => ?_)
    refine rn_if_ne 17 43 dX10_air_17 (by decide) h (fun _ h => ?_) (fun _ h => ?_)
    · refine rw_iconst 43 (v := 0) dX10_air_43 (by decide) ?_
      exact rn_zret2 44 (v := false) dX10_air_44 rfl h
    · refine rw_aload_n 20 dX10_air_20 0 rfl ?_
      refine rw_getR 21 10 2 kc10 dX10_air_21 ly_0 rln_0 fX10_26 rfl rf_0_2 ?_
      refine rw_iload_n 24 dX10_air_24 1 rfl ?_
      refine rn_cVpb 25 5 [.int a1] dX10_air_25 caX5_isSold lX10_120 inX5_isSold slX5_isSold rfl ly_9 ⟨_, rfl, rfl⟩ rln_9 naX5_isSold (Nat.le_of_ble_eq_true rfl) (Nat.le_of_ble_eq_true rfl) (by decide) (fun _ hq => wX5_isSold 9 okX5_9 a1 μ hq) h (fun q2 h => ?_)
      refine rn_ifb_ne 28 43 dX10_air_28 (by decide) h (fun _ h => ?_) (fun _ h => ?_)
      · refine rw_iconst 43 (v := 0) dX10_air_43 (by decide) ?_
        exact rn_zret2 44 (v := false) dX10_air_44 rfl h
      · refine rw_aload_n 31 dX10_air_31 0 rfl ?_
        refine rw_getR 32 10 2 kc10 dX10_air_32 ly_0 rln_0 fX10_26 rfl rf_0_2 ?_
        refine rw_getR 35 5 5 kc5 dX10_air_35 ly_9 rln_9 fX10_117 rfl rf_9_5 ?_
        refine rw_iload_n 38 dX10_air_38 1 rfl ?_
        refine rn_iald 39 dX10_air_39 ly_11 rln_11 h (fun h => ?_)
        refine rn_if_ne 40 45 dX10_air_40 (by decide) h (fun _ h => ?_) (fun _ h => ?_)
        · refine rw_aload_n 45 dX10_air_45 0 rfl ?_
          refine rw_getR 46 10 4 kc10 dX10_air_46 ly_0 rln_0 fX10_36 rfl rf_0_4 ?_
          refine rw_aload_n 49 dX10_air_49 0 rfl ?_
          refine rw_getR 50 10 2 kc10 dX10_air_50 ly_0 rln_0 fX10_26 rfl rf_0_2 ?_
          refine rn_cVmv 53 9 [.ref 9] dX10_air_53 caX9_keep lX10_169 inX9_keep slX9_keep rfl ly_17 ⟨_, rfl, rfl⟩ rln_17 naX9_keep (Nat.le_of_ble_eq_true rfl) (Nat.le_of_ble_eq_true rfl) (by decide) (fun _ hq => wX9_keep 9 okX5_9 μ hq) h (fun q3 h => ?_)
          refine rw_aload_n 56 dX10_air_56 0 rfl ?_
          refine rw_getR 57 10 2 kc10 dX10_air_57 ly_0 rln_0 fX10_26 rfl rf_0_2 ?_
          refine rw_getR 60 5 5 kc5 dX10_air_60 ly_9 rln_9 fX10_117 rfl rf_9_5 ?_
          refine rw_iload_n 63 dX10_air_63 1 rfl ?_
          refine rw_iconst 64 (v := 0) dX10_air_64 (by decide) ?_
          refine rn_iast 65 dX10_air_65 ly_11 rln_11 h (fun μ4 h => ?_)
          refine rw_aload_n 66 dX10_air_66 0 rfl ?_
          refine rw_getR 67 10 2 kc10 dX10_air_67 ly_0 rln_0 fX10_26 rfl rf_0_2 ?_
          refine rw_getI 70 5 1 kc5 dX10_air_70 ly_9 rln_9 fX10_179 rfl ?_
          refine rn_if_le 73 89 dX10_air_73 (by decide) h (fun _ h => ?_) (fun _ h => ?_)
          · refine rw_iconst 89 (v := 1) dX10_air_89 (by decide) ?_
            exact rn_zret2 90 (v := true) dX10_air_90 rfl h
          · refine rw_aload_n 76 dX10_air_76 0 rfl ?_
            refine rw_getR 77 10 2 kc10 dX10_air_77 ly_0 rln_0 fX10_26 rfl rf_0_2 ?_
            refine rw_dup 80 dX10_air_80 rfl ?_
            refine rw_getI 81 5 1 kc5 dX10_air_81 ly_9 rln_9 fX10_179 rfl ?_
            refine rw_iconst 84 (v := 1) dX10_air_84 (by decide) ?_
            refine rw_isub 85 dX10_air_85 ?_
            refine rn_putI 86 5 1 kc5 dX10_air_86 ly_9 rln_9 fX10_179 (fun q hq => by cases hq; rfl) rfl rfl rfl h (fun μ5 h => ?_)
            refine rw_iconst 89 (v := 1) dX10_air_89 (by decide) ?_
            exact rn_zret2 90 (v := true) dX10_air_90 rfl h
        · refine rw_iconst 43 (v := 0) dX10_air_43 (by decide) ?_
          exact rn_zret2 44 (v := false) dX10_air_44 rfl h
def fX10_isWeeks (a1 : Int32) (μ : Mem) : Option (Bool) :=
  if a1 < 0 then
    some false
  else
    if 40 < a1 then
      some false
    else
      some true
set_option maxRecDepth 100000 in
theorem wX10_isWeeks (a1 : Int32) (μ : Mem) {res : Bool} (h : fX10_isWeeks a1 μ = some res) : Ct mX10_isWeeks 1 NF NF [.ref 0, .int a1] (μ, Rf0, NF) (QN (some (.int (b2i res))) μ Rf0 NF) := by
  unfold fX10_isWeeks at h
  show RW mX10_isWeeks 1 NF NF 0 [(0, .ref 0), (1, .int a1)] [] (μ, Rf0, NF) (QN (some (.int (b2i res))) μ Rf0 NF)
  refine rw_iload_n 0 dX10_isWeeks_0 1 rfl ?_
  refine rn_if_lt 1 14 dX10_isWeeks_1 (by decide) h (fun _ h => ?_) (fun _ h => ?_)
  · refine rw_iconst 14 (v := 0) dX10_isWeeks_14 (by decide) ?_
    exact rn_zret 15 (v := false) dX10_isWeeks_15 rfl h
  · refine rw_iload_n 4 dX10_isWeeks_4 1 rfl ?_
    refine rw_bipush 5 (v := 40) dX10_isWeeks_5 (by decide) ?_
    refine rn_icmp_gt 7 14 dX10_isWeeks_7 (by decide) h (fun _ h => ?_) (fun _ h => ?_)
    · refine rw_iconst 14 (v := 0) dX10_isWeeks_14 (by decide) ?_
      exact rn_zret 15 (v := false) dX10_isWeeks_15 rfl h
    · refine rw_iconst 10 (v := 1) dX10_isWeeks_10 (by decide) ?_
      refine rw_goto 11 15 dX10_isWeeks_11 (by decide) ?_
      exact rn_zret 15 (v := true) dX10_isWeeks_15 rfl h
def fX1_payAndRest_2 (t1 : Nat) (t2 : Nat)    (K : Mem → Option (Mem)) : Nat → Int32 → Mem → Option (Mem)
  | 0, _, _ => none
  | n + 1, v3, μ =>
    if v3 < (μ.1 t1 3) then
      (fX5_whereIs t2 v3 μ).bind fun q1 =>
      if q1 = (-2) then
        (fX5_isDead t2 v3 μ).bind fun q2 =>
        if q2 = true then
          fX1_payAndRest_2 t1 t2 K n (v3 + 1) μ
        else
          if inb v3 7 then
          if inb v3 7 then nm (wI μ (t2 + 3) v3.toNatClampNeg (mxI 0 ((μ.1 (t2 + 3) v3.toNatClampNeg) - 1))) fun μ3 =>
          fX1_payAndRest_2 t1 t2 K n (v3 + 1) μ3
          else none
          else none
      else
        if inb q1 4 then
        (fJ6_bitCount_0f7a4 (μ.1 (t2 + 1) q1.toNatClampNeg) μ).bind fun q4 =>
        (fX1_ofGuest 0 t1 t2 v3 q1 (q4 - 1) μ).bind fun q5 =>
        nm (wI q5.2 t2 1 ((μ.1 t2 1) + q5.1)) fun μ6 =>
        (fX1_ofGuest 1 t1 t2 v3 q1 (q4 - 1) μ6).bind fun q7 =>
        if inb v3 7 then
        if inb v3 7 then nm (wI q7.2 (t2 + 3) v3.toNatClampNeg (mnI 999 ((q7.2.1 (t2 + 3) v3.toNatClampNeg) + q7.1))) fun μ8 =>
        fX1_payAndRest_2 t1 t2 K n (v3 + 1) μ8
        else none
        else none
        else none
    else
      K μ
def fX1_payAndRest (t1 : Nat) (t2 : Nat) (μ : Mem) : Option (Mem) :=
  fX1_payAndRest_2 t1 t2 (fun μ9 =>
      some μ9
  ) FU 0 μ
set_option maxRecDepth 100000 in
theorem wX1_payAndRest_2 (t1 : Nat) (ht1 : okX7 Rf0 NF t1) (t2 : Nat) (ht2 : okX5 Rf0 NF t2)    (K : Mem → Option (Mem)) {res : Mem} (hK : ∀  (μ : Mem), K μ = some res → RW mX1_payAndRest 5 NF NF 129 [] [] (μ, Rf0, NF) (QN none res Rf0 NF)) : ∀ (n9 : Nat) (v3 : Int32) (μ : Mem), fX1_payAndRest_2 t1 t2 K n9 v3 μ = some res → RW mX1_payAndRest 5 NF NF 2 [(0, .ref 180), (1, .ref t1), (2, .ref t2), (3, .int v3)] [] (μ, Rf0, NF) (QN none res Rf0 NF) := by
  intro n9
  induction n9 with
  | zero => intro _ _ h; cases h
  | succ n ih =>
    intro v3 μ h
    unfold fX1_payAndRest_2 at h
    refine rw_iload_n 2 dX1_payAndRest_2 3 rfl ?_
    refine rw_aload_n 3 dX1_payAndRest_3 1 rfl ?_
    refine rw_getI 4 7 3 kc7 dX1_payAndRest_4 (o7l ht1) (o7n ht1) fX1_100 rfl ?_
    refine rn_icmp_ge 7 129 dX1_payAndRest_7 (by decide) h (fun _ h => ?_) (fun _ h => ?_)
    · refine rw_pick 129 [] rfl ?_
      exact hK μ h
    · refine rw_aload_n 10 dX1_payAndRest_10 2 rfl ?_
      refine rw_iload_n 11 dX1_payAndRest_11 3 rfl ?_
      refine rn_cVpi 12 5 [.int v3] dX1_payAndRest_12 caX5_whereIs lX1_20 inX5_whereIs slX5_whereIs rfl (o5l ht2) ⟨_, rfl, rfl⟩ (o5n ht2) naX5_whereIs (Nat.le_of_ble_eq_true rfl) (Nat.le_of_ble_eq_true rfl) (by decide) (fun _ hq => wX5_whereIs t2 ht2 v3 μ hq) h (fun q1 h => ?_)
      refine rw_istore 15 [(0, .ref 180), (1, .ref t1), (2, .ref t2), (3, .int v3), (4, .int q1)] dX1_payAndRest_15 (by decide) rfl ?_
      refine rw_iload 17 dX1_payAndRest_17 4 rfl ?_
      refine rw_bipush 19 (v := -2) dX1_payAndRest_19 (by decide) ?_
      refine rn_icmp_eq 21 97 dX1_payAndRest_21 (by decide) h (fun _ h => ?_) (fun _ h => ?_)
      · refine rw_aload_n 97 dX1_payAndRest_97 2 rfl ?_
        refine rw_iload_n 98 dX1_payAndRest_98 3 rfl ?_
        refine rn_cVpb 99 5 [.int v3] dX1_payAndRest_99 caX5_isDead lX1_106 inX5_isDead slX5_isDead rfl (o5l ht2) ⟨_, rfl, rfl⟩ (o5n ht2) naX5_isDead (Nat.le_of_ble_eq_true rfl) (Nat.le_of_ble_eq_true rfl) (by decide) (fun _ hq => wX5_isDead t2 ht2 v3 μ hq) h (fun q2 h => ?_)
        refine rn_ifb_ne 102 123 dX1_payAndRest_102 (by decide) h (fun _ h => ?_) (fun _ h => ?_)
        · refine rw_iinc 123 [(0, .ref 180), (1, .ref t1), (2, .ref t2), (3, .int (v3 + 1)), (4, .int q1)] dX1_payAndRest_123 3 rfl rfl (by decide) rfl ?_
          refine rw_goto 126 2 dX1_payAndRest_126 (by decide) ?_
          refine rw_pick 2 [0, 1, 2, 3] rfl ?_
          exact ih (v3 + 1) μ h
        · refine rw_aload_n 105 dX1_payAndRest_105 2 rfl ?_
          refine rw_getR 106 5 6 kc5 dX1_payAndRest_106 (o5l ht2) (o5n ht2) fX1_53 rfl (o5r6 ht2) ?_
          refine rw_iload_n 109 dX1_payAndRest_109 3 rfl ?_
          refine rw_iconst 110 (v := 0) dX1_payAndRest_110 (by decide) ?_
          refine rw_aload_n 111 dX1_payAndRest_111 2 rfl ?_
          refine rw_getR 112 5 6 kc5 dX1_payAndRest_112 (o5l ht2) (o5n ht2) fX1_53 rfl (o5r6 ht2) ?_
          refine rw_iload_n 115 dX1_payAndRest_115 3 rfl ?_
          refine rn_iald 116 dX1_payAndRest_116 (o5l6 ht2) (o5n6 ht2) h (fun h => ?_)
          refine rw_iconst 117 (v := 1) dX1_payAndRest_117 (by decide) ?_
          refine rw_isub 118 dX1_payAndRest_118 ?_
          refine rw_mmax 119 dX1_payAndRest_119 lX1_87 stJ9_max_7cf53 iiJ9_max_7cf53 coJ9_max_7cf53 (by decide) (Nat.le_of_ble_eq_true rfl) ?_
          refine rn_iast 122 dX1_payAndRest_122 (o5l6 ht2) (o5n6 ht2) h (fun μ3 h => ?_)
          refine rw_iinc 123 [(0, .ref 180), (1, .ref t1), (2, .ref t2), (3, .int (v3 + 1)), (4, .int q1)] dX1_payAndRest_123 3 rfl rfl (by decide) rfl ?_
          refine rw_goto 126 2 dX1_payAndRest_126 (by decide) ?_
          refine rw_pick 2 [0, 1, 2, 3] rfl ?_
          exact ih (v3 + 1) μ3 h
      · refine rw_aload_n 24 dX1_payAndRest_24 2 rfl ?_
        refine rw_getR 25 5 4 kc5 dX1_payAndRest_25 (o5l ht2) (o5n ht2) fX1_26 rfl (o5r4 ht2) ?_
        refine rw_iload 28 dX1_payAndRest_28 4 rfl ?_
        refine rn_iald 30 dX1_payAndRest_30 (o5l4 ht2) (o5n4 ht2) h (fun h => ?_)
        refine rn_cSpi 31 [.int (μ.1 (t2 + 1) q1.toNatClampNeg)] dX1_payAndRest_31 caJ6_bitCount_0f7a4 lX1_29 stJ6_bitCount_0f7a4 rfl naJ6_bitCount_0f7a4 (Nat.le_of_ble_eq_true rfl) (Nat.le_of_ble_eq_true rfl) (by decide) (fun _ hq => wJ6_bitCount_0f7a4 (μ.1 (t2 + 1) q1.toNatClampNeg) μ hq) h (fun q4 h => ?_)
        refine rw_iconst 34 (v := 1) dX1_payAndRest_34 (by decide) ?_
        refine rw_isub 35 dX1_payAndRest_35 ?_
        refine rw_istore 36 [(0, .ref 180), (1, .ref t1), (2, .ref t2), (3, .int v3), (4, .int q1), (5, .int (q4 - 1))] dX1_payAndRest_36 (by decide) rfl ?_
        refine rw_aload_n 38 dX1_payAndRest_38 2 rfl ?_
        refine rw_dup 39 dX1_payAndRest_39 rfl ?_
        refine rw_getI 40 5 1 kc5 dX1_payAndRest_40 (o5l ht2) (o5n ht2) fX1_103 rfl ?_
        refine rw_aload_n 43 dX1_payAndRest_43 0 rfl ?_
        refine rw_iconst 44 (v := 0) dX1_payAndRest_44 (by decide) ?_
        refine rw_aload_n 45 dX1_payAndRest_45 1 rfl ?_
        refine rw_aload_n 46 dX1_payAndRest_46 2 rfl ?_
        refine rw_iload_n 47 dX1_payAndRest_47 3 rfl ?_
        refine rw_iload 48 dX1_payAndRest_48 4 rfl ?_
        refine rw_iload 50 dX1_payAndRest_50 5 rfl ?_
        refine rn_cVmi 52 1 [.int 0, .ref t1, .ref t2, .int v3, .int q1, .int (q4 - 1)] dX1_payAndRest_52 caX1_ofGuest lX1_34 inX1_ofGuest slX1_ofGuest rfl ly_180 ⟨_, rfl, rfl⟩ rln_180 naX1_ofGuest (Nat.le_of_ble_eq_true rfl) (Nat.le_of_ble_eq_true rfl) (by decide) (fun _ hq => wX1_ofGuest 0 t1 ht1 t2 ht2 v3 q1 (q4 - 1) μ hq) h (fun q5 h => ?_)
        refine rw_iadd 55 dX1_payAndRest_55 ?_
        refine rn_putI 56 5 1 kc5 dX1_payAndRest_56 (o5l ht2) (o5n ht2) fX1_103 (fun q hq => by cases hq; rfl) rfl rfl rfl h (fun μ6 h => ?_)
        refine rw_aload_n 59 dX1_payAndRest_59 0 rfl ?_
        refine rw_iconst 60 (v := 1) dX1_payAndRest_60 (by decide) ?_
        refine rw_aload_n 61 dX1_payAndRest_61 1 rfl ?_
        refine rw_aload_n 62 dX1_payAndRest_62 2 rfl ?_
        refine rw_iload_n 63 dX1_payAndRest_63 3 rfl ?_
        refine rw_iload 64 dX1_payAndRest_64 4 rfl ?_
        refine rw_iload 66 dX1_payAndRest_66 5 rfl ?_
        refine rn_cVmi 68 1 [.int 1, .ref t1, .ref t2, .int v3, .int q1, .int (q4 - 1)] dX1_payAndRest_68 caX1_ofGuest lX1_34 inX1_ofGuest slX1_ofGuest rfl ly_180 ⟨_, rfl, rfl⟩ rln_180 naX1_ofGuest (Nat.le_of_ble_eq_true rfl) (Nat.le_of_ble_eq_true rfl) (by decide) (fun _ hq => wX1_ofGuest 1 t1 ht1 t2 ht2 v3 q1 (q4 - 1) μ6 hq) h (fun q7 h => ?_)
        refine rw_istore 71 [(0, .ref 180), (1, .ref t1), (2, .ref t2), (3, .int v3), (4, .int q1), (5, .int (q4 - 1)), (6, .int q7.1)] dX1_payAndRest_71 (by decide) rfl ?_
        refine rw_aload_n 73 dX1_payAndRest_73 2 rfl ?_
        refine rw_getR 74 5 6 kc5 dX1_payAndRest_74 (o5l ht2) (o5n ht2) fX1_53 rfl (o5r6 ht2) ?_
        refine rw_iload_n 77 dX1_payAndRest_77 3 rfl ?_
        refine rw_sipush 78 (v := 999) dX1_payAndRest_78 (by decide) ?_
        refine rw_aload_n 81 dX1_payAndRest_81 2 rfl ?_
        refine rw_getR 82 5 6 kc5 dX1_payAndRest_82 (o5l ht2) (o5n ht2) fX1_53 rfl (o5r6 ht2) ?_
        refine rw_iload_n 85 dX1_payAndRest_85 3 rfl ?_
        refine rn_iald 86 dX1_payAndRest_86 (o5l6 ht2) (o5n6 ht2) h (fun h => ?_)
        refine rw_iload 87 dX1_payAndRest_87 6 rfl ?_
        refine rw_iadd 89 dX1_payAndRest_89 ?_
        refine rw_mmin 90 dX1_payAndRest_90 lX1_81 stJ9_min_7cf53 iiJ9_min_7cf53 coJ9_min_7cf53 (by decide) (Nat.le_of_ble_eq_true rfl) ?_
        refine rn_iast 93 dX1_payAndRest_93 (o5l6 ht2) (o5n6 ht2) h (fun μ8 h => ?_)
        refine rw_goto 94 123 dX1_payAndRest_94 (by decide) ?_
        refine rw_iinc 123 [(0, .ref 180), (1, .ref t1), (2, .ref t2), (3, .int (v3 + 1)), (4, .int q1), (5, .int (q4 - 1)), (6, .int q7.1)] dX1_payAndRest_123 3 rfl rfl (by decide) rfl ?_
        refine rw_goto 126 2 dX1_payAndRest_126 (by decide) ?_
        refine rw_pick 2 [0, 1, 2, 3] rfl ?_
        exact ih (v3 + 1) μ8 h
set_option maxRecDepth 100000 in
theorem wX1_payAndRest (t1 : Nat) (ht1 : okX7 Rf0 NF t1) (t2 : Nat) (ht2 : okX5 Rf0 NF t2) (μ : Mem) {res : Mem} (h : fX1_payAndRest t1 t2 μ = some res) : Ct mX1_payAndRest 5 NF NF [.ref 180, .ref t1, .ref t2] (μ, Rf0, NF) (QN none res Rf0 NF) := by
  unfold fX1_payAndRest at h
  show RW mX1_payAndRest 5 NF NF 0 [(0, .ref 180), (1, .ref t1), (2, .ref t2)] [] (μ, Rf0, NF) (QN none res Rf0 NF)
  refine rw_iconst 0 (v := 0) dX1_payAndRest_0 (by decide) ?_
  refine rw_istore_n 1 [(0, .ref 180), (1, .ref t1), (2, .ref t2), (3, .int 0)] dX1_payAndRest_1 (by decide) rfl ?_
  refine wX1_payAndRest_2 t1 ht1 t2 ht2 _ (fun μ9 h => ?_) FU 0 μ h
  exact rn_vret 129 dX1_payAndRest_129 rfl h
