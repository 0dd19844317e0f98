def fX11_whose (a1 : Int32) (a2 : Int32) (μ : Mem) : Option (Int32) :=
  (fX11_in a1 0 (μ.1 243 62) μ).bind fun q1 =>
  if q1 = true then
    (fX11_in a2 0 1 μ).bind fun q2 =>
    if q2 = true then
      (fX11_whoseBits a1 μ).bind fun q3 =>
      if a2 = 0 then
        (fX11_bits q3 μ).bind fun q4 =>
        some q4
      else
        some q3
    else
      some (-1)
  else
    some (-1)
set_option maxRecDepth 100000 in
theorem wX11_whose (a1 : Int32) (a2 : Int32) (μ : Mem) {res : Int32} (h : fX11_whose a1 a2 μ = some res) : Ct mX11_whose 4 NF NF [.ref 243, .int a1, .int a2] (μ, Rf0, NF) (QN (some (.int res)) μ Rf0 NF) := by
  unfold fX11_whose at h
  show RW mX11_whose 4 NF NF 0 [(0, .ref 243), (1, .int a1), (2, .int a2)] [] (μ, Rf0, NF) (QN (some (.int res)) μ Rf0 NF)
  refine rw_iload_n 0 dX11_whose_0 1 rfl ?_
  refine rw_iconst 1 (v := 0) dX11_whose_1 (by decide) ?_
  refine rw_aload_n 2 dX11_whose_2 0 rfl ?_
  refine rw_getI 3 11 62 kc11 dX11_whose_3 ly_243 rln_243 fX11_257 rfl ?_
  refine rn_cSpb 6 [.int a1, .int 0, .int (μ.1 243 62)] dX11_whose_6 caX11_in lX11_316 stX11_in rfl naX11_in (Nat.le_of_ble_eq_true rfl) (Nat.le_of_ble_eq_true rfl) (by decide) (fun _ hq => wX11_in a1 0 (μ.1 243 62) μ hq) h (fun q1 h => ?_)
  refine rn_ifb_eq 9 21 dX11_whose_9 (by decide) h (fun _ h => ?_) (fun _ h => ?_)
  · refine rw_iconst 21 (v := -1) dX11_whose_21 (by decide) ?_
    exact rn_iret 22 dX11_whose_22 rfl h
  · refine rw_iload_n 12 dX11_whose_12 2 rfl ?_
    refine rw_iconst 13 (v := 0) dX11_whose_13 (by decide) ?_
    refine rw_iconst 14 (v := 1) dX11_whose_14 (by decide) ?_
    refine rn_cSpb 15 [.int a2, .int 0, .int 1] dX11_whose_15 caX11_in lX11_316 stX11_in rfl naX11_in (Nat.le_of_ble_eq_true rfl) (Nat.le_of_ble_eq_true rfl) (by decide) (fun _ hq => wX11_in a2 0 1 μ hq) h (fun q2 h => ?_)
    refine rn_ifb_ne 18 23 dX11_whose_18 (by decide) h (fun _ h => ?_) (fun _ h => ?_)
    · refine rw_aload_n 23 dX11_whose_23 0 rfl ?_
      refine rw_iload_n 24 dX11_whose_24 1 rfl ?_
      refine rn_cVpi 25 11 [.int a1] dX11_whose_25 caX11_whoseBits lX11_485 inX11_whoseBits slX11_whoseBits rfl ly_243 ⟨_, rfl, rfl⟩ rln_243 naX11_whoseBits (Nat.le_of_ble_eq_true rfl) (Nat.le_of_ble_eq_true rfl) (by decide) (fun _ hq => wX11_whoseBits a1 μ hq) h (fun q3 h => ?_)
      refine rw_istore_n 28 [(0, .ref 243), (1, .int a1), (2, .int a2), (3, .int q3)] dX11_whose_28 (by decide) rfl ?_
      refine rw_iload_n 29 dX11_whose_29 2 rfl ?_
      refine rn_if_ne 30 40 dX11_whose_30 (by decide) h (fun _ h => ?_) (fun _ h => ?_)
      · refine rw_iload_n 40 dX11_whose_40 3 rfl ?_
        exact rn_iret 41 dX11_whose_41 rfl h
      · refine rw_iload_n 33 dX11_whose_33 3 rfl ?_
        refine rn_cSpi 34 [.int q3] dX11_whose_34 caX11_bits lX11_365 stX11_bits rfl naX11_bits (Nat.le_of_ble_eq_true rfl) (Nat.le_of_ble_eq_true rfl) (by decide) (fun _ hq => wX11_bits q3 μ hq) h (fun q4 h => ?_)
        refine rw_goto 37 41 dX11_whose_37 (by decide) ?_
        exact rn_iret 41 dX11_whose_41 rfl h
    · refine rw_iconst 21 (v := -1) dX11_whose_21 (by decide) ?_
      exact rn_iret 22 dX11_whose_22 rfl h
def fX11_look_46   (v2 : Int32) (v3 : Int32) (v4 : Int32) (v5 : Int32) (μ : Mem) (K : Int32 → Option (Int32)) : Nat → Int32 → Int32 → Option (Int32)
  | 0, _, _ => none
  | n + 1, v6, v7 =>
    if inb (μ.1 243 18) 2 then
    if v7 < (μ.1 256 (μ.1 243 18).toNatClampNeg) then
      if ((v2 >>> (v7 &&& 31)) &&& 1) = 1 then
        (fX11_isThere v7 v5 μ).bind fun q3 =>
        if q3 = true then
          fX11_look_46 v2 v3 v4 v5 μ K n (v6 + 1) (v7 + 1)
        else
          fX11_look_46 v2 v3 v4 v5 μ K n v6 (v7 + 1)
      else
        fX11_look_46 v2 v3 v4 v5 μ K n v6 (v7 + 1)
    else
      K v6
    else none
def fX11_look_29   (v2 : Int32) (μ : Mem) (K : Int32 → Option (Int32)) : Nat → Int32 → Int32 → Int32 → Option (Int32)
  | 0, _, _, _ => none
  | n + 1, v3, v4, v5 =>
    if v5 < 24 then
      if v2 = 0 then
        K v3
      else
        fX11_look_46 v2 v3 v4 v5 μ (fun y4 =>
            (fX11_bits v2 μ).bind fun q5 =>
            if (q5 - y4) < y4 then
              if v3 < 0 then
                fX11_look_29 v2 μ K n v5 y4 (v5 + 1)
              else
                if y4 < v4 then
                  fX11_look_29 v2 μ K n v5 y4 (v5 + 1)
                else
                  fX11_look_29 v2 μ K n v3 v4 (v5 + 1)
            else
              (fX11_bits v2 μ).bind fun q6 =>
              if v3 < 0 then
                fX11_look_29 v2 μ K n v5 (q6 - y4) (v5 + 1)
              else
                if (q6 - y4) < v4 then
                  fX11_look_29 v2 μ K n v5 (q6 - y4) (v5 + 1)
                else
                  fX11_look_29 v2 μ K n v3 v4 (v5 + 1)
        ) FU 0 0
    else
      K v3
def fX11_look (a1 : Int32) (μ : Mem) : Option (Int32) :=
  (fX11_in a1 0 (μ.1 243 62) μ).bind fun q1 =>
  if q1 = true then
    (fX11_whoseBits a1 μ).bind fun q2 =>
    fX11_look_29 q2 μ (fun y7 =>
        some y7
    ) FU (-2) 0 0
  else
    some (-1)
set_option maxRecDepth 100000 in
theorem wX11_look_46   (v2 : Int32) (v3 : Int32) (v4 : Int32) (v5 : Int32) (μ : Mem) (K : Int32 → Option (Int32)) {res : Int32} (hK : ∀ (v6 : Int32), K v6 = some res → RW mX11_look 4 NF NF 90 [(0, .ref 243), (2, .int v2), (3, .int v3), (4, .int v4), (5, .int v5), (6, .int v6)] [] (μ, Rf0, NF) (QN (some (.int res)) μ Rf0 NF)) : ∀ (n9 : Nat) (v6 : Int32) (v7 : Int32), fX11_look_46 v2 v3 v4 v5 μ K n9 v6 v7 = some res → RW mX11_look 4 NF NF 46 [(0, .ref 243), (2, .int v2), (3, .int v3), (4, .int v4), (5, .int v5), (6, .int v6), (7, .int v7)] [] (μ, Rf0, NF) (QN (some (.int res)) μ Rf0 NF) := by
  intro n9
  induction n9 with
  | zero => intro _ _ h; cases h
  | succ n ih =>
    intro v6 v7 h
    unfold fX11_look_46 at h
    refine rw_iload 46 dX11_look_46 6 rfl ?_
    refine rw_aload_n 48 dX11_look_48 0 rfl ?_
    refine rw_getR 49 11 26 kc11 dX11_look_49 ly_243 rln_243 fX11_55 rfl rf_243_26 ?_
    refine rw_aload_n 52 dX11_look_52 0 rfl ?_
    refine rw_getI 53 11 18 kc11 dX11_look_53 ly_243 rln_243 fX11_236 rfl ?_
    refine rn_iald 56 dX11_look_56 ly_256 rln_256 h (fun h => ?_)
    refine rn_icmp_ge 57 90 dX11_look_57 (by decide) h (fun _ h => ?_) (fun _ h => ?_)
    · refine rw_pick 90 [0, 1, 2, 3, 4, 5] rfl ?_
      exact hK v6 h
    · refine rw_iload_n 60 dX11_look_60 1 rfl ?_
      refine rw_iload 61 dX11_look_61 6 rfl ?_
      refine rw_ishr 63 dX11_look_63 ?_
      refine rw_iconst 64 (v := 1) dX11_look_64 (by decide) ?_
      refine rw_iand 65 dX11_look_65 ?_
      refine rw_iconst 66 (v := 1) dX11_look_66 (by decide) ?_
      refine rn_icmp_ne 67 84 dX11_look_67 (by decide) h (fun _ h => ?_) (fun _ h => ?_)
      · refine rw_iinc 84 [(0, .ref 243), (2, .int v2), (3, .int v3), (4, .int v4), (5, .int v5), (6, .int v6), (7, .int (v7 + 1))] dX11_look_84 6 rfl rfl (by decide) rfl ?_
        refine rw_goto 87 46 dX11_look_87 (by decide) ?_
        exact ih v6 (v7 + 1) h
      · refine rw_aload_n 70 dX11_look_70 0 rfl ?_
        refine rw_iload 71 dX11_look_71 6 rfl ?_
        refine rw_iload 73 dX11_look_73 4 rfl ?_
        refine rn_cVpb 75 11 [.int v7, .int v5] dX11_look_75 caX11_isThere lX11_482 inX11_isThere slX11_isThere rfl ly_243 ⟨_, rfl, rfl⟩ rln_243 naX11_isThere (Nat.le_of_ble_eq_true rfl) (Nat.le_of_ble_eq_true rfl) (by decide) (fun _ hq => wX11_isThere v7 v5 μ hq) h (fun q3 h => ?_)
        refine rn_ifb_eq 78 84 dX11_look_78 (by decide) h (fun _ h => ?_) (fun _ h => ?_)
        · refine rw_iinc 84 [(0, .ref 243), (2, .int v2), (3, .int v3), (4, .int v4), (5, .int v5), (6, .int v6), (7, .int (v7 + 1))] dX11_look_84 6 rfl rfl (by decide) rfl ?_
          refine rw_goto 87 46 dX11_look_87 (by decide) ?_
          exact ih v6 (v7 + 1) h
        · refine rw_iinc 81 [(0, .ref 243), (2, .int v2), (3, .int v3), (4, .int v4), (5, .int v5), (6, .int (v6 + 1)), (7, .int v7)] dX11_look_81 5 rfl rfl (by decide) rfl ?_
          refine rw_iinc 84 [(0, .ref 243), (2, .int v2), (3, .int v3), (4, .int v4), (5, .int v5), (6, .int (v6 + 1)), (7, .int (v7 + 1))] dX11_look_84 6 rfl rfl (by decide) rfl ?_
          refine rw_goto 87 46 dX11_look_87 (by decide) ?_
          exact ih (v6 + 1) (v7 + 1) h
set_option maxRecDepth 100000 in
theorem wX11_look_29   (v2 : Int32) (μ : Mem) (K : Int32 → Option (Int32)) {res : Int32} (hK : ∀ (v3 : Int32), K v3 = some res → RW mX11_look 4 NF NF 143 [(3, .int v3)] [] (μ, Rf0, NF) (QN (some (.int res)) μ Rf0 NF)) : ∀ (n9 : Nat) (v3 : Int32) (v4 : Int32) (v5 : Int32), fX11_look_29 v2 μ K n9 v3 v4 v5 = some res → RW mX11_look 4 NF NF 29 [(0, .ref 243), (2, .int v2), (3, .int v3), (4, .int v4), (5, .int v5)] [] (μ, Rf0, NF) (QN (some (.int res)) μ Rf0 NF) := by
  intro n9
  induction n9 with
  | zero => intro _ _ _ h; cases h
  | succ n ih =>
    intro v3 v4 v5 h
    unfold fX11_look_29 at h
    refine rw_iload 29 dX11_look_29 4 rfl ?_
    refine rw_bipush 31 (v := 24) dX11_look_31 (by decide) ?_
    refine rn_icmp_ge 33 143 dX11_look_33 (by decide) h (fun _ h => ?_) (fun _ h => ?_)
    · refine rw_pick 143 [2] rfl ?_
      exact hK v3 h
    · refine rw_iload_n 36 dX11_look_36 1 rfl ?_
      refine rn_if_eq 37 143 dX11_look_37 (by decide) h (fun _ h => ?_) (fun _ h => ?_)
      · refine rw_pick 143 [2] rfl ?_
        exact hK v3 h
      · refine rw_iconst 40 (v := 0) dX11_look_40 (by decide) ?_
        refine rw_istore 41 [(0, .ref 243), (2, .int v2), (3, .int v3), (4, .int v4), (5, .int v5), (6, .int 0)] dX11_look_41 (by decide) rfl ?_
        refine rw_iconst 43 (v := 0) dX11_look_43 (by decide) ?_
        refine rw_istore 44 [(0, .ref 243), (2, .int v2), (3, .int v3), (4, .int v4), (5, .int v5), (6, .int 0), (7, .int 0)] dX11_look_44 (by decide) rfl ?_
        refine wX11_look_46 v2 v3 v4 v5 μ _ (fun y4 h => ?_) FU 0 0 h
        refine rw_iload 90 dX11_look_90 5 rfl ?_
        refine rw_iload_n 92 dX11_look_92 1 rfl ?_
        refine rn_cSpi 93 [.int v2] dX11_look_93 caX11_bits lX11_365 stX11_bits rfl naX11_bits (Nat.le_of_ble_eq_true rfl) (Nat.le_of_ble_eq_true rfl) (by decide) (fun _ hq => wX11_bits v2 μ hq) h (fun q5 h => ?_)
        refine rw_iload 96 dX11_look_96 5 rfl ?_
        refine rw_isub 98 dX11_look_98 ?_
        refine rn_icmp_le 99 107 dX11_look_99 (by decide) h (fun _ h => ?_) (fun _ h => ?_)
        · refine rw_iload_n 107 dX11_look_107 1 rfl ?_
          refine rn_cSpi 108 [.int v2] dX11_look_108 caX11_bits lX11_365 stX11_bits rfl naX11_bits (Nat.le_of_ble_eq_true rfl) (Nat.le_of_ble_eq_true rfl) (by decide) (fun _ hq => wX11_bits v2 μ hq) h (fun q6 h => ?_)
          refine rw_iload 111 dX11_look_111 5 rfl ?_
          refine rw_isub 113 dX11_look_113 ?_
          refine rw_istore 114 [(0, .ref 243), (2, .int v2), (3, .int v3), (4, .int v4), (5, .int v5), (6, .int y4), (7, .int (q6 - y4))] dX11_look_114 (by decide) rfl ?_
          refine rw_iload_n 116 dX11_look_116 2 rfl ?_
          refine rn_if_lt 117 130 dX11_look_117 (by decide) h (fun _ h => ?_) (fun _ h => ?_)
          · refine rw_iload 130 dX11_look_130 4 rfl ?_
            refine rw_istore_n 132 [(0, .ref 243), (2, .int v2), (3, .int v5), (4, .int v4), (5, .int v5), (6, .int y4), (7, .int (q6 - y4))] dX11_look_132 (by decide) rfl ?_
            refine rw_iload 133 dX11_look_133 6 rfl ?_
            refine rw_istore 135 [(0, .ref 243), (2, .int v2), (3, .int v5), (4, .int (q6 - y4)), (5, .int v5), (6, .int y4), (7, .int (q6 - y4))] dX11_look_135 (by decide) rfl ?_
            refine rw_iinc 137 [(0, .ref 243), (2, .int v2), (3, .int v5), (4, .int (q6 - y4)), (5, .int (v5 + 1)), (6, .int y4), (7, .int (q6 - y4))] dX11_look_137 4 rfl rfl (by decide) rfl ?_
            refine rw_goto 140 29 dX11_look_140 (by decide) ?_
            refine rw_pick 29 [0, 1, 2, 3, 4] rfl ?_
            exact ih v5 (q6 - y4) (v5 + 1) h
          · refine rw_iload 120 dX11_look_120 6 rfl ?_
            refine rw_iload 122 dX11_look_122 3 rfl ?_
            refine rn_icmp_lt 124 130 dX11_look_124 (by decide) h (fun _ h => ?_) (fun _ h => ?_)
            · refine rw_iload 130 dX11_look_130 4 rfl ?_
              refine rw_istore_n 132 [(0, .ref 243), (2, .int v2), (3, .int v5), (4, .int v4), (5, .int v5), (6, .int y4), (7, .int (q6 - y4))] dX11_look_132 (by decide) rfl ?_
              refine rw_iload 133 dX11_look_133 6 rfl ?_
              refine rw_istore 135 [(0, .ref 243), (2, .int v2), (3, .int v5), (4, .int (q6 - y4)), (5, .int v5), (6, .int y4), (7, .int (q6 - y4))] dX11_look_135 (by decide) rfl ?_
              refine rw_iinc 137 [(0, .ref 243), (2, .int v2), (3, .int v5), (4, .int (q6 - y4)), (5, .int (v5 + 1)), (6, .int y4), (7, .int (q6 - y4))] dX11_look_137 4 rfl rfl (by decide) rfl ?_
              refine rw_goto 140 29 dX11_look_140 (by decide) ?_
              refine rw_pick 29 [0, 1, 2, 3, 4] rfl ?_
              exact ih v5 (q6 - y4) (v5 + 1) h
            · refine rw_goto 127 137 dX11_look_127 (by decide) ?_
              refine rw_iinc 137 [(0, .ref 243), (2, .int v2), (3, .int v3), (4, .int v4), (5, .int (v5 + 1)), (6, .int y4), (7, .int (q6 - y4))] dX11_look_137 4 rfl rfl (by decide) rfl ?_
              refine rw_goto 140 29 dX11_look_140 (by decide) ?_
              refine rw_pick 29 [0, 1, 2, 3, 4] rfl ?_
              exact ih v3 v4 (v5 + 1) h
        · refine rw_iload 102 dX11_look_102 5 rfl ?_
          refine rw_goto 104 114 dX11_look_104 (by decide) ?_
          refine rw_istore 114 [(0, .ref 243), (2, .int v2), (3, .int v3), (4, .int v4), (5, .int v5), (6, .int y4), (7, .int y4)] dX11_look_114 (by decide) rfl ?_
          refine rw_iload_n 116 dX11_look_116 2 rfl ?_
          refine rn_if_lt 117 130 dX11_look_117 (by decide) h (fun _ h => ?_) (fun _ h => ?_)
          · refine rw_iload 130 dX11_look_130 4 rfl ?_
            refine rw_istore_n 132 [(0, .ref 243), (2, .int v2), (3, .int v5), (4, .int v4), (5, .int v5), (6, .int y4), (7, .int y4)] dX11_look_132 (by decide) rfl ?_
            refine rw_iload 133 dX11_look_133 6 rfl ?_
            refine rw_istore 135 [(0, .ref 243), (2, .int v2), (3, .int v5), (4, .int y4), (5, .int v5), (6, .int y4), (7, .int y4)] dX11_look_135 (by decide) rfl ?_
            refine rw_iinc 137 [(0, .ref 243), (2, .int v2), (3, .int v5), (4, .int y4), (5, .int (v5 + 1)), (6, .int y4), (7, .int y4)] dX11_look_137 4 rfl rfl (by decide) rfl ?_
            refine rw_goto 140 29 dX11_look_140 (by decide) ?_
            refine rw_pick 29 [0, 1, 2, 3, 4] rfl ?_
            exact ih v5 y4 (v5 + 1) h
          · refine rw_iload 120 dX11_look_120 6 rfl ?_
            refine rw_iload 122 dX11_look_122 3 rfl ?_
            refine rn_icmp_lt 124 130 dX11_look_124 (by decide) h (fun _ h => ?_) (fun _ h => ?_)
            · refine rw_iload 130 dX11_look_130 4 rfl ?_
              refine rw_istore_n 132 [(0, .ref 243), (2, .int v2), (3, .int v5), (4, .int v4), (5, .int v5), (6, .int y4), (7, .int y4)] dX11_look_132 (by decide) rfl ?_
              refine rw_iload 133 dX11_look_133 6 rfl ?_
              refine rw_istore 135 [(0, .ref 243), (2, .int v2), (3, .int v5), (4, .int y4), (5, .int v5), (6, .int y4), (7, .int y4)] dX11_look_135 (by decide) rfl ?_
              refine rw_iinc 137 [(0, .ref 243), (2, .int v2), (3, .int v5), (4, .int y4), (5, .int (v5 + 1)), (6, .int y4), (7, .int y4)] dX11_look_137 4 rfl rfl (by decide) rfl ?_
              refine rw_goto 140 29 dX11_look_140 (by decide) ?_
              refine rw_pick 29 [0, 1, 2, 3, 4] rfl ?_
              exact ih v5 y4 (v5 + 1) h
            · refine rw_goto 127 137 dX11_look_127 (by decide) ?_
              refine rw_iinc 137 [(0, .ref 243), (2, .int v2), (3, .int v3), (4, .int v4), (5, .int (v5 + 1)), (6, .int y4), (7, .int y4)] dX11_look_137 4 rfl rfl (by decide) rfl ?_
              refine rw_goto 140 29 dX11_look_140 (by decide) ?_
              refine rw_pick 29 [0, 1, 2, 3, 4] rfl ?_
              exact ih v3 v4 (v5 + 1) h
set_option maxRecDepth 100000 in
theorem wX11_look (a1 : Int32) (μ : Mem) {res : Int32} (h : fX11_look a1 μ = some res) : Ct mX11_look 4 NF NF [.ref 243, .int a1] (μ, Rf0, NF) (QN (some (.int res)) μ Rf0 NF) := by
  unfold fX11_look at h
  show RW mX11_look 4 NF NF 0 [(0, .ref 243), (1, .int a1)] [] (μ, Rf0, NF) (QN (some (.int res)) μ Rf0 NF)
  refine rw_iload_n 0 dX11_look_0 1 rfl ?_
  refine rw_iconst 1 (v := 0) dX11_look_1 (by decide) ?_
  refine rw_aload_n 2 dX11_look_2 0 rfl ?_
  refine rw_getI 3 11 62 kc11 dX11_look_3 ly_243 rln_243 fX11_257 rfl ?_
  refine rn_cSpb 6 [.int a1, .int 0, .int (μ.1 243 62)] dX11_look_6 caX11_in lX11_316 stX11_in rfl naX11_in (Nat.le_of_ble_eq_true rfl) (Nat.le_of_ble_eq_true rfl) (by decide) (fun _ hq => wX11_in a1 0 (μ.1 243 62) μ hq) h (fun q1 h => ?_)
  refine rn_ifb_ne 9 14 dX11_look_9 (by decide) h (fun _ h => ?_) (fun _ h => ?_)
  · refine rw_aload_n 14 dX11_look_14 0 rfl ?_
    refine rw_iload_n 15 dX11_look_15 1 rfl ?_
    refine rn_cVpi 16 11 [.int a1] dX11_look_16 caX11_whoseBits lX11_485 inX11_whoseBits slX11_whoseBits rfl ly_243 ⟨_, rfl, rfl⟩ rln_243 naX11_whoseBits (Nat.le_of_ble_eq_true rfl) (Nat.le_of_ble_eq_true rfl) (by decide) (fun _ hq => wX11_whoseBits a1 μ hq) h (fun q2 h => ?_)
    refine rw_istore_n 19 [(0, .ref 243), (1, .int a1), (2, .int q2)] dX11_look_19 (by decide) rfl ?_
    refine rw_bipush 20 (v := -2) dX11_look_20 (by decide) ?_
    refine rw_istore_n 22 [(0, .ref 243), (1, .int a1), (2, .int q2), (3, .int (-2))] dX11_look_22 (by decide) rfl ?_
    refine rw_iconst 23 (v := 0) dX11_look_23 (by decide) ?_
    refine rw_istore 24 [(0, .ref 243), (1, .int a1), (2, .int q2), (3, .int (-2)), (4, .int 0)] dX11_look_24 (by decide) rfl ?_
    refine rw_iconst 26 (v := 0) dX11_look_26 (by decide) ?_
    refine rw_istore 27 [(0, .ref 243), (1, .int a1), (2, .int q2), (3, .int (-2)), (4, .int 0), (5, .int 0)] dX11_look_27 (by decide) rfl ?_
    refine rw_pick 29 [0, 2, 3, 4, 5] rfl ?_
    refine wX11_look_29 q2 μ _ (fun y7 h => ?_) FU (-2) 0 0 h
    refine rw_iload_n 143 dX11_look_143 0 rfl ?_
    exact rn_iret 144 dX11_look_144 rfl h
  · refine rw_iconst 12 (v := -1) dX11_look_12 (by decide) ?_
    exact rn_iret 13 dX11_look_13 rfl h
def fX11_hold_20   (v1 : Int32)  (K : Mem → Option (Bool × Mem)) : Nat → Int32 → Mem → Option (Bool × Mem)
  | 0, _, _ => none
  | n + 1, v2, μ =>
    if v2 < 31 then
      if inb v2 31 then
      if inb ((31 * v1) + v2) 93 then nm (wI μ 288 ((31 * v1) + v2).toNatClampNeg (μ.1 276 v2.toNatClampNeg)) fun μ3 =>
      fX11_hold_20 v1 K n (v2 + 1) μ3
      else none
      else none
    else
      K μ
def fX11_hold (a1 : Int32) (μ : Mem) : Option (Bool × Mem) :=
  (fX11_in a1 0 2 μ).bind fun q1 =>
  if q1 = true then
    if inb a1 3 then nm (wI μ 287 a1.toNatClampNeg (1 &&& 1)) fun μ2 =>
    fX11_hold_20 a1 (fun μ4 =>
        some (true, μ4)
    ) FU 0 μ2
    else none
  else
    some (false, μ)
set_option maxRecDepth 100000 in
theorem wX11_hold_20   (v1 : Int32)  (K : Mem → Option (Bool × Mem)) {res : Bool × Mem} (hK : ∀  (μ : Mem), K μ = some res → RW mX11_hold 2 NF NF 49 [] [] (μ, Rf0, NF) (QN (some (.int (b2i res.1))) res.2 Rf0 NF)) : ∀ (n9 : Nat) (v2 : Int32) (μ : Mem), fX11_hold_20 v1 K n9 v2 μ = some res → RW mX11_hold 2 NF NF 20 [(0, .ref 243), (1, .int v1), (2, .int v2)] [] (μ, Rf0, NF) (QN (some (.int (b2i res.1))) res.2 Rf0 NF) := by
  intro n9
  induction n9 with
  | zero => intro _ _ h; cases h
  | succ n ih =>
    intro v2 μ h
    unfold fX11_hold_20 at h
    refine rw_iload_n 20 dX11_hold_20 2 rfl ?_
    refine rw_bipush 21 (v := 31) dX11_hold_21 (by decide) ?_
    refine rn_icmp_ge 23 49 dX11_hold_23 (by decide) h (fun _ h => ?_) (fun _ h => ?_)
    · refine rw_pick 49 [] rfl ?_
      exact hK μ h
    · refine rw_aload_n 26 dX11_hold_26 0 rfl ?_
      refine rw_getR 27 11 66 kc11 dX11_hold_27 ly_243 rln_243 fX11_152 rfl rf_243_66 ?_
      refine rw_bipush 30 (v := 31) dX11_hold_30 (by decide) ?_
      refine rw_iload_n 32 dX11_hold_32 1 rfl ?_
      refine rw_imul 33 dX11_hold_33 ?_
      refine rw_iload_n 34 dX11_hold_34 2 rfl ?_
      refine rw_iadd 35 dX11_hold_35 ?_
      refine rw_aload_n 36 dX11_hold_36 0 rfl ?_
      refine rw_getR 37 11 50 kc11 dX11_hold_37 ly_243 rln_243 fX11_116 rfl rf_243_50 ?_
      refine rw_iload_n 40 dX11_hold_40 2 rfl ?_
      refine rn_iald 41 dX11_hold_41 ly_276 rln_276 h (fun h => ?_)
      refine rn_iast 42 dX11_hold_42 ly_288 rln_288 h (fun μ3 h => ?_)
      refine rw_iinc 43 [(0, .ref 243), (1, .int v1), (2, .int (v2 + 1))] dX11_hold_43 2 rfl rfl (by decide) rfl ?_
      refine rw_goto 46 20 dX11_hold_46 (by decide) ?_
      exact ih (v2 + 1) μ3 h
set_option maxRecDepth 100000 in
theorem wX11_hold (a1 : Int32) (μ : Mem) {res : Bool × Mem} (h : fX11_hold a1 μ = some res) : Ct mX11_hold 2 NF NF [.ref 243, .int a1] (μ, Rf0, NF) (QN (some (.int (b2i res.1))) res.2 Rf0 NF) := by
  unfold fX11_hold at h
  show RW mX11_hold 2 NF NF 0 [(0, .ref 243), (1, .int a1)] [] (μ, Rf0, NF) (QN (some (.int (b2i res.1))) res.2 Rf0 NF)
  refine rw_iload_n 0 dX11_hold_0 1 rfl ?_
  refine rw_iconst 1 (v := 0) dX11_hold_1 (by decide) ?_
  refine rw_iconst 2 (v := 2) dX11_hold_2 (by decide) ?_
  refine rn_cSpb 3 [.int a1, .int 0, .int 2] dX11_hold_3 caX11_in lX11_316 stX11_in rfl naX11_in (Nat.le_of_ble_eq_true rfl) (Nat.le_of_ble_eq_true rfl) (by decide) (fun _ hq => wX11_in a1 0 2 μ hq) h (fun q1 h => ?_)
  refine rn_ifb_ne 6 11 dX11_hold_6 (by decide) h (fun _ h => ?_) (fun _ h => ?_)
  · refine rw_aload_n 11 dX11_hold_11 0 rfl ?_
    refine rw_getR 12 11 65 kc11 dX11_hold_12 ly_243 rln_243 fX11_149 rfl rf_243_65 ?_
    refine rw_iload_n 15 dX11_hold_15 1 rfl ?_
    refine rw_iconst 16 (v := 1) dX11_hold_16 (by decide) ?_
    refine rn_zast 17 dX11_hold_17 ly_287 rln_287 h (fun μ2 h => ?_)
    refine rw_iconst 18 (v := 0) dX11_hold_18 (by decide) ?_
    refine rw_istore_n 19 [(0, .ref 243), (1, .int a1), (2, .int 0)] dX11_hold_19 (by decide) rfl ?_
    refine wX11_hold_20 a1 _ (fun μ4 h => ?_) FU 0 μ2 h
    refine rw_iconst 49 (v := 1) dX11_hold_49 (by decide) ?_
    exact rn_zret2 50 (v := true) dX11_hold_50 rfl h
  · refine rw_iconst 9 (v := 0) dX11_hold_9 (by decide) ?_
    exact rn_zret2 10 (v := false) dX11_hold_10 rfl h
def fX11_restore_22   (v1 : Int32)  (K : Mem → Option (Bool × Mem)) : Nat → Int32 → Mem → Option (Bool × Mem)
  | 0, _, _ => none
  | n + 1, v2, μ =>
    if v2 < 31 then
      if inb ((31 * v1) + v2) 93 then
      if inb v2 31 then nm (wI μ 276 v2.toNatClampNeg (μ.1 288 ((31 * v1) + v2).toNatClampNeg)) fun μ2 =>
      fX11_restore_22 v1 K n (v2 + 1) μ2
      else none
      else none
    else
      K μ
def fX11_restore (a1 : Int32) (μ : Mem) : Option (Bool × Mem) :=
  (fX11_in a1 0 2 μ).bind fun q1 =>
  if q1 = true then
    if inb a1 3 then
    if (μ.1 287 a1.toNatClampNeg) = 0 then
      some (false, μ)
    else
      fX11_restore_22 a1 (fun μ3 =>
          nm (wI μ3 243 56 0) fun μ4 =>
          some (true, μ4)
      ) FU 0 μ
    else none
  else
    some (false, μ)
set_option maxRecDepth 100000 in
theorem wX11_restore_22   (v1 : Int32)  (K : Mem → Option (Bool × Mem)) {res : Bool × Mem} (hK : ∀  (μ : Mem), K μ = some res → RW mX11_restore 2 NF NF 51 [(0, .ref 243)] [] (μ, Rf0, NF) (QN (some (.int (b2i res.1))) res.2 Rf0 NF)) : ∀ (n9 : Nat) (v2 : Int32) (μ : Mem), fX11_restore_22 v1 K n9 v2 μ = some res → RW mX11_restore 2 NF NF 22 [(0, .ref 243), (1, .int v1), (2, .int v2)] [] (μ, Rf0, NF) (QN (some (.int (b2i res.1))) res.2 Rf0 NF) := by
  intro n9
  induction n9 with
  | zero => intro _ _ h; cases h
  | succ n ih =>
    intro v2 μ h
    unfold fX11_restore_22 at h
    refine rw_iload_n 22 dX11_restore_22 2 rfl ?_
    refine rw_bipush 23 (v := 31) dX11_restore_23 (by decide) ?_
    refine rn_icmp_ge 25 51 dX11_restore_25 (by decide) h (fun _ h => ?_) (fun _ h => ?_)
    · refine rw_pick 51 [0] rfl ?_
      exact hK μ h
    · refine rw_aload_n 28 dX11_restore_28 0 rfl ?_
      refine rw_getR 29 11 50 kc11 dX11_restore_29 ly_243 rln_243 fX11_116 rfl rf_243_50 ?_
      refine rw_iload_n 32 dX11_restore_32 2 rfl ?_
      refine rw_aload_n 33 dX11_restore_33 0 rfl ?_
      refine rw_getR 34 11 66 kc11 dX11_restore_34 ly_243 rln_243 fX11_152 rfl rf_243_66 ?_
      refine rw_bipush 37 (v := 31) dX11_restore_37 (by decide) ?_
      refine rw_iload_n 39 dX11_restore_39 1 rfl ?_
      refine rw_imul 40 dX11_restore_40 ?_
      refine rw_iload_n 41 dX11_restore_41 2 rfl ?_
      refine rw_iadd 42 dX11_restore_42 ?_
      refine rn_iald 43 dX11_restore_43 ly_288 rln_288 h (fun h => ?_)
      refine rn_iast 44 dX11_restore_44 ly_276 rln_276 h (fun μ2 h => ?_)
      refine rw_iinc 45 [(0, .ref 243), (1, .int v1), (2, .int (v2 + 1))] dX11_restore_45 2 rfl rfl (by decide) rfl ?_
      refine rw_goto 48 22 dX11_restore_48 (by decide) ?_
      exact ih (v2 + 1) μ2 h
set_option maxRecDepth 100000 in
theorem wX11_restore (a1 : Int32) (μ : Mem) {res : Bool × Mem} (h : fX11_restore a1 μ = some res) : Ct mX11_restore 2 NF NF [.ref 243, .int a1] (μ, Rf0, NF) (QN (some (.int (b2i res.1))) res.2 Rf0 NF) := by
  unfold fX11_restore at h
  show RW mX11_restore 2 NF NF 0 [(0, .ref 243), (1, .int a1)] [] (μ, Rf0, NF) (QN (some (.int (b2i res.1))) res.2 Rf0 NF)
  refine rw_iload_n 0 dX11_restore_0 1 rfl ?_
  refine rw_iconst 1 (v := 0) dX11_restore_1 (by decide) ?_
  refine rw_iconst 2 (v := 2) dX11_restore_2 (by decide) ?_
  refine rn_cSpb 3 [.int a1, .int 0, .int 2] dX11_restore_3 caX11_in lX11_316 stX11_in rfl naX11_in (Nat.le_of_ble_eq_true rfl) (Nat.le_of_ble_eq_true rfl) (by decide) (fun _ hq => wX11_in a1 0 2 μ hq) h (fun q1 h => ?_)
  refine rn_ifb_eq 6 18 dX11_restore_6 (by decide) h (fun _ h => ?_) (fun _ h => ?_)
  · refine rw_iconst 18 (v := 0) dX11_restore_18 (by decide) ?_
    exact rn_zret2 19 (v := false) dX11_restore_19 rfl h
  · refine rw_aload_n 9 dX11_restore_9 0 rfl ?_
    refine rw_getR 10 11 65 kc11 dX11_restore_10 ly_243 rln_243 fX11_149 rfl rf_243_65 ?_
    refine rw_iload_n 13 dX11_restore_13 1 rfl ?_
    refine rn_zald 14 dX11_restore_14 ly_287 rln_287 h (fun h => ?_)
    refine rn_if_ne 15 20 dX11_restore_15 (by decide) h (fun _ h => ?_) (fun _ h => ?_)
    · refine rw_iconst 20 (v := 0) dX11_restore_20 (by decide) ?_
      refine rw_istore_n 21 [(0, .ref 243), (1, .int a1), (2, .int 0)] dX11_restore_21 (by decide) rfl ?_
      refine wX11_restore_22 a1 _ (fun μ3 h => ?_) FU 0 μ h
      refine rw_aload_n 51 dX11_restore_51 0 rfl ?_
      refine rw_iconst 52 (v := 0) dX11_restore_52 (by decide) ?_
      refine rn_putI 53 11 56 kc11 dX11_restore_53 ly_243 rln_243 fX11_254 (fun q hq => by cases hq; rfl) rfl rfl rfl h (fun μ4 h => ?_)
      refine rw_iconst 56 (v := 1) dX11_restore_56 (by decide) ?_
      exact rn_zret2 57 (v := true) dX11_restore_57 rfl h
    · refine rw_iconst 18 (v := 0) dX11_restore_18 (by decide) ?_
      exact rn_zret2 19 (v := false) dX11_restore_19 rfl h
def fX11_sumNow_5   (v1 : Int32) (v2 : Int32) (μ : Mem) (K : Int32 → Option (Int32)) : Nat → Int32 → Int32 → Option (Int32)
  | 0, _, _ => none
  | n + 1, v3, v4 =>
    if v4 < (v1 + v2) then
      if inb v4 31 then
      nm (v3 + (μ.1 276 v4.toNatClampNeg)) fun x1 =>
      fX11_sumNow_5 v1 v2 μ K n x1 (v4 + 1)
      else none
    else
      K v3
def fX11_sumNow (a1 : Int32) (a2 : Int32) (μ : Mem) : Option (Int32) :=
  fX11_sumNow_5 a1 a2 μ (fun y2 =>
      some y2
  ) FU 0 a1
set_option maxRecDepth 100000 in
theorem wX11_sumNow_5   (v1 : Int32) (v2 : Int32) (μ : Mem) (K : Int32 → Option (Int32)) {res : Int32} (hK : ∀ (v3 : Int32), K v3 = some res → RW mX11_sumNow 1 NF NF 29 [(3, .int v3)] [] (μ, Rf0, NF) (QN (some (.int res)) μ Rf0 NF)) : ∀ (n9 : Nat) (v3 : Int32) (v4 : Int32), fX11_sumNow_5 v1 v2 μ K n9 v3 v4 = some res → RW mX11_sumNow 1 NF NF 5 [(0, .ref 243), (1, .int v1), (2, .int v2), (3, .int v3), (4, .int v4)] [] (μ, Rf0, NF) (QN (some (.int res)) μ Rf0 NF) := by
  intro n9
  induction n9 with
  | zero => intro _ _ h; cases h
  | succ n ih =>
    intro v3 v4 h
    unfold fX11_sumNow_5 at h
    refine rw_iload 5 dX11_sumNow_5 4 rfl ?_
    refine rw_iload_n 7 dX11_sumNow_7 1 rfl ?_
    refine rw_iload_n 8 dX11_sumNow_8 2 rfl ?_
    refine rw_iadd 9 dX11_sumNow_9 ?_
    refine rn_icmp_ge 10 29 dX11_sumNow_10 (by decide) h (fun _ h => ?_) (fun _ h => ?_)
    · refine rw_pick 29 [3] rfl ?_
      exact hK v3 h
    · refine rw_iload_n 13 dX11_sumNow_13 3 rfl ?_
      refine rw_aload_n 14 dX11_sumNow_14 0 rfl ?_
      refine rw_getR 15 11 50 kc11 dX11_sumNow_15 ly_243 rln_243 fX11_116 rfl rf_243_50 ?_
      refine rw_iload 18 dX11_sumNow_18 4 rfl ?_
      refine rn_iald 20 dX11_sumNow_20 ly_276 rln_276 h (fun h => ?_)
      refine rw_iadd 21 dX11_sumNow_21 ?_
      refine rn_ist_n 22 (fun x1 => [(0, .ref 243), (1, .int v1), (2, .int v2), (3, .int x1), (4, .int v4)]) dX11_sumNow_22 (by decide) (fun _ => rfl) h (fun x1 h => ?_)
      refine rw_iinc 23 [(0, .ref 243), (1, .int v1), (2, .int v2), (3, .int x1), (4, .int (v4 + 1))] dX11_sumNow_23 4 rfl rfl (by decide) rfl ?_
      refine rw_goto 26 5 dX11_sumNow_26 (by decide) ?_
      exact ih x1 (v4 + 1) h
set_option maxRecDepth 100000 in
theorem wX11_sumNow (a1 : Int32) (a2 : Int32) (μ : Mem) {res : Int32} (h : fX11_sumNow a1 a2 μ = some res) : Ct mX11_sumNow 1 NF NF [.ref 243, .int a1, .int a2] (μ, Rf0, NF) (QN (some (.int res)) μ Rf0 NF) := by
  unfold fX11_sumNow at h
  show RW mX11_sumNow 1 NF NF 0 [(0, .ref 243), (1, .int a1), (2, .int a2)] [] (μ, Rf0, NF) (QN (some (.int res)) μ Rf0 NF)
  refine rw_iconst 0 (v := 0) dX11_sumNow_0 (by decide) ?_
  refine rw_istore_n 1 [(0, .ref 243), (1, .int a1), (2, .int a2), (3, .int 0)] dX11_sumNow_1 (by decide) rfl ?_
  refine rw_iload_n 2 dX11_sumNow_2 1 rfl ?_
  refine rw_istore 3 [(0, .ref 243), (1, .int a1), (2, .int a2), (3, .int 0), (4, .int a1)] dX11_sumNow_3 (by decide) rfl ?_
  refine wX11_sumNow_5 a1 a2 μ _ (fun y2 h => ?_) FU 0 a1 h
  refine rw_iload_n 29 dX11_sumNow_29 0 rfl ?_
  exact rn_iret 30 dX11_sumNow_30 rfl h
def fX11_count_134    (μ : Mem) (K : Int32 → Option (Int32 × Mem)) : Nat → Int32 → Int32 → Option (Int32 × Mem)
  | 0, _, _ => none
  | n + 1, v2, v3 =>
    if inb (μ.1 243 18) 2 then
    if v3 < (μ.1 256 (μ.1 243 18).toNatClampNeg) then
      if inb v3 31 then
      if (μ.1 277 v3.toNatClampNeg) < 0 then
        fX11_count_134 μ K n v2 (v3 + 1)
      else
        nm (v2 ||| ((1 : Int32) <<< (v3 &&& 31))) fun x7 =>
        fX11_count_134 μ K n x7 (v3 + 1)
      else none
    else
      K v2
    else none
def fX11_count_193    (μ : Mem) (K : Int32 → Option (Int32 × Mem)) : Nat → Int32 → Int32 → Option (Int32 × Mem)
  | 0, _, _ => none
  | n + 1, v2, v3 =>
    if inb (μ.1 243 18) 2 then
    if v3 < (μ.1 253 (μ.1 243 18).toNatClampNeg) then
      if inb (25 + v3) 31 then
      nm (v2 ||| ((μ.1 277 (25 + v3).toNatClampNeg) <<< (v3 &&& 31))) fun x12 =>
      fX11_count_193 μ K n x12 (v3 + 1)
      else none
    else
      K v2
    else none
def fX11_count_j262    (s0 : Int32) (μ : Mem) : Option (Int32 × Mem) :=
  if (μ.1 287 1) = 0 then
    if (μ.1 287 2) = 0 then
      some (((s0 + 0) + 0), μ)
    else
      some (((s0 + 0) + 1), μ)
  else
    if (μ.1 287 2) = 0 then
      some (((s0 + 1) + 0), μ)
    else
      some (((s0 + 1) + 1), μ)
def fX11_count_312    (μ : Mem) (K : Int32 → Option (Int32 × Mem)) : Nat → Int32 → Int32 → Option (Int32 × Mem)
  | 0, _, _ => none
  | n + 1, v2, v3 =>
    if inb (μ.1 243 18) 2 then
    if v3 < (μ.1 256 (μ.1 243 18).toNatClampNeg) then
      (fX11_clashBits v3 μ).bind fun q25 =>
      (fX11_bits q25 μ).bind fun q26 =>
      fX11_count_312 μ K n (v2 + q26) (v3 + 1)
    else
      K v2
    else none
def fX11_count_348    (μ : Mem) (K : Int32 → Option (Int32 × Mem)) : Nat → Int32 → Int32 → Option (Int32 × Mem)
  | 0, _, _ => none
  | n + 1, v2, v3 =>
    if inb (μ.1 243 18) 2 then
    if v3 < (μ.1 253 (μ.1 243 18).toNatClampNeg) then
      (fX11_guestBits v3 μ).bind fun q29 =>
      if q29 = 0 then
        fX11_count_348 μ K n v2 (v3 + 1)
      else
        nm (v2 ||| ((1 : Int32) <<< (v3 &&& 31))) fun x30 =>
        fX11_count_348 μ K n x30 (v3 + 1)
    else
      K v2
    else none
def fX11_count_385    (μ : Mem) (K : Int32 → Option (Int32 × Mem)) : Nat → Int32 → Int32 → Option (Int32 × Mem)
  | 0, _, _ => none
  | n + 1, v2, v3 =>
    if inb (μ.1 243 18) 2 then
    if v3 < (μ.1 256 (μ.1 243 18).toNatClampNeg) then
      (fX11_fitBits v3 μ).bind fun q33 =>
      if q33 = 0 then
        fX11_count_385 μ K n v2 (v3 + 1)
      else
        nm (v2 ||| ((1 : Int32) <<< (v3 &&& 31))) fun x34 =>
        fX11_count_385 μ K n x34 (v3 + 1)
    else
      K v2
    else none
def fX11_count_422    (μ : Mem) (K : Int32 → Option (Int32 × Mem)) : Nat → Int32 → Int32 → Option (Int32 × Mem)
  | 0, _, _ => none
  | n + 1, v2, v3 =>
    if inb (μ.1 243 18) 2 then
    if v3 < (μ.1 253 (μ.1 243 18).toNatClampNeg) then
      if inb (25 + v3) 31 then
      if (μ.1 277 (25 + v3).toNatClampNeg) = 0 then
        if inb ((4 * (μ.1 243 18)) + v3) 8 then
        nm (v2 + (μ.1 254 ((4 * (μ.1 243 18)) + v3).toNatClampNeg)) fun x37 =>
        fX11_count_422 μ K n x37 (v3 + 1)
        else none
      else
        fX11_count_422 μ K n v2 (v3 + 1)
      else none
    else
      K v2
    else none
def fX11_count_473    (μ : Mem) (K : Int32 → Option (Int32 × Mem)) : Nat → Int32 → Int32 → Option (Int32 × Mem)
  | 0, _, _ => none
  | n + 1, v2, v3 =>
    if inb (μ.1 243 18) 2 then
    if v3 < (μ.1 256 (μ.1 243 18).toNatClampNeg) then
      if inb (14 + v3) 31 then
      if (μ.1 277 (14 + v3).toNatClampNeg) = 0 then
        if inb ((7 * (μ.1 243 18)) + v3) 14 then
        nm (v2 + (μ.1 259 ((7 * (μ.1 243 18)) + v3).toNatClampNeg)) fun x40 =>
        fX11_count_473 μ K n x40 (v3 + 1)
        else none
      else
        fX11_count_473 μ K n v2 (v3 + 1)
      else none
    else
      K v2
    else none
def fX11_count (a1 : Int32) (μ : Mem) : Option (Int32 × Mem) :=
  (fX11_copies μ).bind fun q1 =>
  if a1 = 0 then
    if inb (q1.1 243 18) 2 then
    some ((q1.1 253 (q1.1 243 18).toNatClampNeg), q1)
    else none
  else
  if a1 = 1 then
    if inb (q1.1 243 18) 2 then
    some ((q1.1 256 (q1.1 243 18).toNatClampNeg), q1)
    else none
  else
  if a1 = 2 then
    some ((q1.1 277 29), q1)
  else
  if a1 = 3 then
    some ((q1.1 277 30), q1)
  else
  if a1 = 4 then
    fX11_count_134 q1 (fun y8 =>
        some (y8, q1)
    ) FU 0 0
  else
  if a1 = 5 then
    if inb (q1.1 243 18) 2 then
    (fX11_livingBits q1).bind fun q10 =>
    some (((((1 : Int32) <<< ((q1.1 256 (q1.1 243 18).toNatClampNeg) &&& 31)) - 1) &&& (q10 ^^^ (-1))), q1)
    else none
  else
  if a1 = 6 then
    fX11_count_193 q1 (fun y13 =>
        some (y13, q1)
    ) FU 0 0
  else
  if a1 = 7 then
    (fX11_dueAll q1).bind fun q15 =>
    some (q15.1, q15.2)
  else
  if a1 = 8 then
    some ((q1.1 243 2), q1)
  else
  if a1 = 9 then
    some ((q1.1 243 56), q1)
  else
  if a1 = 10 then
    some ((q1.1 243 62), q1)
  else
  if a1 = 11 then
    if (q1.1 287 0) = 0 then
      fX11_count_j262 0 q1
    else
      fX11_count_j262 1 q1
  else
  if a1 = 12 then
    (fX11_sumNow 21 4 q1).bind fun q21 =>
    some (q21, q1)
  else
  if a1 = 13 then
    (fX11_sumNow 7 7 q1).bind fun q23 =>
    some (q23, q1)
  else
  if a1 = 14 then
    fX11_count_312 q1 (fun y27 =>
        some ((y27 / 2), q1)
    ) FU 0 0
  else
  if a1 = 15 then
    fX11_count_348 q1 (fun y31 =>
        some (y31, q1)
    ) FU 0 0
  else
  if a1 = 16 then
    fX11_count_385 q1 (fun y35 =>
        some (y35, q1)
    ) FU 0 0
  else
  if a1 = 17 then
    fX11_count_422 q1 (fun y38 =>
        some (y38, q1)
    ) FU 0 0
  else
  if a1 = 18 then
    fX11_count_473 q1 (fun y41 =>
        some (y41, q1)
    ) FU 0 0
  else
    some ((-1), q1)
set_option maxRecDepth 100000 in
theorem wX11_count_134    (μ : Mem) (K : Int32 → Option (Int32 × Mem)) {res : Int32 × Mem} (hK : ∀ (v2 : Int32), K v2 = some res → RW mX11_count 6 NF NF 168 [(2, .int v2)] [] (μ, Rf0, NF) (QN (some (.int res.1)) res.2 Rf0 NF)) : ∀ (n9 : Nat) (v2 : Int32) (v3 : Int32), fX11_count_134 μ K n9 v2 v3 = some res → RW mX11_count 6 NF NF 134 [(0, .ref 243), (2, .int v2), (3, .int v3)] [] (μ, Rf0, NF) (QN (some (.int res.1)) res.2 Rf0 NF) := by
  intro n9
  induction n9 with
  | zero => intro _ _ h; cases h
  | succ n ih =>
    intro v2 v3 h
    unfold fX11_count_134 at h
    refine rw_iload_n 134 dX11_count_134 2 rfl ?_
    refine rw_aload_n 135 dX11_count_135 0 rfl ?_
    refine rw_getR 136 11 26 kc11 dX11_count_136 ly_243 rln_243 fX11_55 rfl rf_243_26 ?_
    refine rw_aload_n 139 dX11_count_139 0 rfl ?_
    refine rw_getI 140 11 18 kc11 dX11_count_140 ly_243 rln_243 fX11_236 rfl ?_
    refine rn_iald 143 dX11_count_143 ly_256 rln_256 h (fun h => ?_)
    refine rn_icmp_ge 144 168 dX11_count_144 (by decide) h (fun _ h => ?_) (fun _ h => ?_)
    · refine rw_pick 168 [1] rfl ?_
      exact hK v2 h
    · refine rw_aload_n 147 dX11_count_147 0 rfl ?_
      refine rw_getR 148 11 51 kc11 dX11_count_148 ly_243 rln_243 fX11_119 rfl rf_243_51 ?_
      refine rw_iload_n 151 dX11_count_151 2 rfl ?_
      refine rn_iald 152 dX11_count_152 ly_277 rln_277 h (fun h => ?_)
      refine rn_if_lt 153 162 dX11_count_153 (by decide) h (fun _ h => ?_) (fun _ h => ?_)
      · refine rw_iinc 162 [(0, .ref 243), (2, .int v2), (3, .int (v3 + 1))] dX11_count_162 2 rfl rfl (by decide) rfl ?_
        refine rw_goto 165 134 dX11_count_165 (by decide) ?_
        exact ih v2 (v3 + 1) h
      · refine rw_iload_n 156 dX11_count_156 1 rfl ?_
        refine rw_iconst 157 (v := 1) dX11_count_157 (by decide) ?_
        refine rw_iload_n 158 dX11_count_158 2 rfl ?_
        refine rw_ishl 159 dX11_count_159 ?_
        refine rw_ior 160 dX11_count_160 ?_
        refine rn_ist_n 161 (fun x7 => [(0, .ref 243), (2, .int x7), (3, .int v3)]) dX11_count_161 (by decide) (fun _ => rfl) h (fun x7 h => ?_)
        refine rw_iinc 162 [(0, .ref 243), (2, .int x7), (3, .int (v3 + 1))] dX11_count_162 2 rfl rfl (by decide) rfl ?_
        refine rw_goto 165 134 dX11_count_165 (by decide) ?_
        exact ih x7 (v3 + 1) h
set_option maxRecDepth 100000 in
theorem wX11_count_193    (μ : Mem) (K : Int32 → Option (Int32 × Mem)) {res : Int32 × Mem} (hK : ∀ (v2 : Int32), K v2 = some res → RW mX11_count 6 NF NF 226 [(2, .int v2)] [] (μ, Rf0, NF) (QN (some (.int res.1)) res.2 Rf0 NF)) : ∀ (n9 : Nat) (v2 : Int32) (v3 : Int32), fX11_count_193 μ K n9 v2 v3 = some res → RW mX11_count 6 NF NF 193 [(0, .ref 243), (2, .int v2), (3, .int v3)] [] (μ, Rf0, NF) (QN (some (.int res.1)) res.2 Rf0 NF) := by
  intro n9
  induction n9 with
  | zero => intro _ _ h; cases h
  | succ n ih =>
    intro v2 v3 h
    unfold fX11_count_193 at h
    refine rw_iload_n 193 dX11_count_193 2 rfl ?_
    refine rw_aload_n 194 dX11_count_194 0 rfl ?_
    refine rw_getR 195 11 23 kc11 dX11_count_195 ly_243 rln_243 fX11_46 rfl rf_243_23 ?_
    refine rw_aload_n 198 dX11_count_198 0 rfl ?_
    refine rw_getI 199 11 18 kc11 dX11_count_199 ly_243 rln_243 fX11_236 rfl ?_
    refine rn_iald 202 dX11_count_202 ly_253 rln_253 h (fun h => ?_)
    refine rn_icmp_ge 203 226 dX11_count_203 (by decide) h (fun _ h => ?_) (fun _ h => ?_)
    · refine rw_pick 226 [1] rfl ?_
      exact hK v2 h
    · refine rw_iload_n 206 dX11_count_206 1 rfl ?_
      refine rw_aload_n 207 dX11_count_207 0 rfl ?_
      refine rw_getR 208 11 51 kc11 dX11_count_208 ly_243 rln_243 fX11_119 rfl rf_243_51 ?_
      refine rw_bipush 211 (v := 25) dX11_count_211 (by decide) ?_
      refine rw_iload_n 213 dX11_count_213 2 rfl ?_
      refine rw_iadd 214 dX11_count_214 ?_
      refine rn_iald 215 dX11_count_215 ly_277 rln_277 h (fun h => ?_)
      refine rw_iload_n 216 dX11_count_216 2 rfl ?_
      refine rw_ishl 217 dX11_count_217 ?_
      refine rw_ior 218 dX11_count_218 ?_
      refine rn_ist_n 219 (fun x12 => [(0, .ref 243), (2, .int x12), (3, .int v3)]) dX11_count_219 (by decide) (fun _ => rfl) h (fun x12 h => ?_)
      refine rw_iinc 220 [(0, .ref 243), (2, .int x12), (3, .int (v3 + 1))] dX11_count_220 2 rfl rfl (by decide) rfl ?_
      refine rw_goto 223 193 dX11_count_223 (by decide) ?_
      exact ih x12 (v3 + 1) h
set_option maxRecDepth 100000 in
theorem wX11_count_j262   {res : Int32 × Mem} (s0 : Int32) (μ : Mem)  (h : fX11_count_j262 s0 μ = some res) : RW mX11_count 6 NF NF 262 [(0, .ref 243)] [.int s0] (μ, Rf0, NF) (QN (some (.int res.1)) res.2 Rf0 NF) := by
  unfold fX11_count_j262 at h
  refine rw_aload_n 262 dX11_count_262 0 rfl ?_
  refine rw_getR 263 11 65 kc11 dX11_count_263 ly_243 rln_243 fX11_149 rfl rf_243_65 ?_
  refine rw_iconst 266 (v := 1) dX11_count_266 (by decide) ?_
  refine rn_zaldc 267 dX11_count_267 ly_287 rln_287 (by decide) (j := 1) (by decide) ?_
  refine rn_if_eq 268 275 dX11_count_268 (by decide) h (fun _ h => ?_) (fun _ h => ?_)
  · refine rw_iconst 275 (v := 0) dX11_count_275 (by decide) ?_
    refine rw_iadd 276 dX11_count_276 ?_
    refine rw_aload_n 277 dX11_count_277 0 rfl ?_
    refine rw_getR 278 11 65 kc11 dX11_count_278 ly_243 rln_243 fX11_149 rfl rf_243_65 ?_
    refine rw_iconst 281 (v := 2) dX11_count_281 (by decide) ?_
    refine rn_zaldc 282 dX11_count_282 ly_287 rln_287 (by decide) (j := 2) (by decide) ?_
    refine rn_if_eq 283 290 dX11_count_283 (by decide) h (fun _ h => ?_) (fun _ h => ?_)
    · refine rw_iconst 290 (v := 0) dX11_count_290 (by decide) ?_
      refine rw_iadd 291 dX11_count_291 ?_
      exact rn_iret2 292 dX11_count_292 rfl h
    · refine rw_iconst 286 (v := 1) dX11_count_286 (by decide) ?_
      refine rw_goto 287 291 dX11_count_287 (by decide) ?_
      refine rw_iadd 291 dX11_count_291 ?_
      exact rn_iret2 292 dX11_count_292 rfl h
  · refine rw_iconst 271 (v := 1) dX11_count_271 (by decide) ?_
    refine rw_goto 272 276 dX11_count_272 (by decide) ?_
    refine rw_iadd 276 dX11_count_276 ?_
    refine rw_aload_n 277 dX11_count_277 0 rfl ?_
    refine rw_getR 278 11 65 kc11 dX11_count_278 ly_243 rln_243 fX11_149 rfl rf_243_65 ?_
    refine rw_iconst 281 (v := 2) dX11_count_281 (by decide) ?_
    refine rn_zaldc 282 dX11_count_282 ly_287 rln_287 (by decide) (j := 2) (by decide) ?_
    refine rn_if_eq 283 290 dX11_count_283 (by decide) h (fun _ h => ?_) (fun _ h => ?_)
    · refine rw_iconst 290 (v := 0) dX11_count_290 (by decide) ?_
      refine rw_iadd 291 dX11_count_291 ?_
      exact rn_iret2 292 dX11_count_292 rfl h
    · refine rw_iconst 286 (v := 1) dX11_count_286 (by decide) ?_
      refine rw_goto 287 291 dX11_count_287 (by decide) ?_
      refine rw_iadd 291 dX11_count_291 ?_
      exact rn_iret2 292 dX11_count_292 rfl h
set_option maxRecDepth 100000 in
theorem wX11_count_312    (μ : Mem) (K : Int32 → Option (Int32 × Mem)) {res : Int32 × Mem} (hK : ∀ (v2 : Int32), K v2 = some res → RW mX11_count 6 NF NF 342 [(2, .int v2)] [] (μ, Rf0, NF) (QN (some (.int res.1)) res.2 Rf0 NF)) : ∀ (n9 : Nat) (v2 : Int32) (v3 : Int32), fX11_count_312 μ K n9 v2 v3 = some res → RW mX11_count 6 NF NF 312 [(0, .ref 243), (2, .int v2), (3, .int v3)] [] (μ, Rf0, NF) (QN (some (.int res.1)) res.2 Rf0 NF) := by
  intro n9
  induction n9 with
  | zero => intro _ _ h; cases h
  | succ n ih =>
    intro v2 v3 h
    unfold fX11_count_312 at h
    refine rw_iload_n 312 dX11_count_312 2 rfl ?_
    refine rw_aload_n 313 dX11_count_313 0 rfl ?_
    refine rw_getR 314 11 26 kc11 dX11_count_314 ly_243 rln_243 fX11_55 rfl rf_243_26 ?_
    refine rw_aload_n 317 dX11_count_317 0 rfl ?_
    refine rw_getI 318 11 18 kc11 dX11_count_318 ly_243 rln_243 fX11_236 rfl ?_
    refine rn_iald 321 dX11_count_321 ly_256 rln_256 h (fun h => ?_)
    refine rn_icmp_ge 322 342 dX11_count_322 (by decide) h (fun _ h => ?_) (fun _ h => ?_)
    · refine rw_pick 342 [1] rfl ?_
      exact hK v2 h
    · refine rw_iload_n 325 dX11_count_325 1 rfl ?_
      refine rw_aload_n 326 dX11_count_326 0 rfl ?_
      refine rw_iload_n 327 dX11_count_327 2 rfl ?_
      refine rn_cVpi 328 11 [.int v3] dX11_count_328 caX11_clashBits lX11_419 inX11_clashBits slX11_clashBits rfl ly_243 ⟨_, rfl, rfl⟩ rln_243 naX11_clashBits (Nat.le_of_ble_eq_true rfl) (Nat.le_of_ble_eq_true rfl) (by decide) (fun _ hq => wX11_clashBits v3 μ hq) h (fun q25 h => ?_)
      refine rn_cSpi 331 [.int q25] dX11_count_331 caX11_bits lX11_365 stX11_bits rfl naX11_bits (Nat.le_of_ble_eq_true rfl) (Nat.le_of_ble_eq_true rfl) (by decide) (fun _ hq => wX11_bits q25 μ hq) h (fun q26 h => ?_)
      refine rw_iadd 334 dX11_count_334 ?_
      refine rw_istore_n 335 [(0, .ref 243), (2, .int (v2 + q26)), (3, .int v3)] dX11_count_335 (by decide) rfl ?_
      refine rw_iinc 336 [(0, .ref 243), (2, .int (v2 + q26)), (3, .int (v3 + 1))] dX11_count_336 2 rfl rfl (by decide) rfl ?_
      refine rw_goto 339 312 dX11_count_339 (by decide) ?_
      exact ih (v2 + q26) (v3 + 1) h
set_option maxRecDepth 100000 in
theorem wX11_count_348    (μ : Mem) (K : Int32 → Option (Int32 × Mem)) {res : Int32 × Mem} (hK : ∀ (v2 : Int32), K v2 = some res → RW mX11_count 6 NF NF 381 [(2, .int v2)] [] (μ, Rf0, NF) (QN (some (.int res.1)) res.2 Rf0 NF)) : ∀ (n9 : Nat) (v2 : Int32) (v3 : Int32), fX11_count_348 μ K n9 v2 v3 = some res → RW mX11_count 6 NF NF 348 [(0, .ref 243), (2, .int v2), (3, .int v3)] [] (μ, Rf0, NF) (QN (some (.int res.1)) res.2 Rf0 NF) := by
  intro n9
  induction n9 with
  | zero => intro _ _ h; cases h
  | succ n ih =>
    intro v2 v3 h
    unfold fX11_count_348 at h
    refine rw_iload_n 348 dX11_count_348 2 rfl ?_
    refine rw_aload_n 349 dX11_count_349 0 rfl ?_
    refine rw_getR 350 11 23 kc11 dX11_count_350 ly_243 rln_243 fX11_46 rfl rf_243_23 ?_
    refine rw_aload_n 353 dX11_count_353 0 rfl ?_
    refine rw_getI 354 11 18 kc11 dX11_count_354 ly_243 rln_243 fX11_236 rfl ?_
    refine rn_iald 357 dX11_count_357 ly_253 rln_253 h (fun h => ?_)
    refine rn_icmp_ge 358 381 dX11_count_358 (by decide) h (fun _ h => ?_) (fun _ h => ?_)
    · refine rw_pick 381 [1] rfl ?_
      exact hK v2 h
    · refine rw_aload_n 361 dX11_count_361 0 rfl ?_
      refine rw_iload_n 362 dX11_count_362 2 rfl ?_
      refine rn_cVpi 363 11 [.int v3] dX11_count_363 caX11_guestBits lX11_362 inX11_guestBits slX11_guestBits rfl ly_243 ⟨_, rfl, rfl⟩ rln_243 naX11_guestBits (Nat.le_of_ble_eq_true rfl) (Nat.le_of_ble_eq_true rfl) (by decide) (fun _ hq => wX11_guestBits v3 μ hq) h (fun q29 h => ?_)
      refine rn_if_eq 366 375 dX11_count_366 (by decide) h (fun _ h => ?_) (fun _ h => ?_)
      · refine rw_iinc 375 [(0, .ref 243), (2, .int v2), (3, .int (v3 + 1))] dX11_count_375 2 rfl rfl (by decide) rfl ?_
        refine rw_goto 378 348 dX11_count_378 (by decide) ?_
        exact ih v2 (v3 + 1) h
      · refine rw_iload_n 369 dX11_count_369 1 rfl ?_
        refine rw_iconst 370 (v := 1) dX11_count_370 (by decide) ?_
        refine rw_iload_n 371 dX11_count_371 2 rfl ?_
        refine rw_ishl 372 dX11_count_372 ?_
        refine rw_ior 373 dX11_count_373 ?_
        refine rn_ist_n 374 (fun x30 => [(0, .ref 243), (2, .int x30), (3, .int v3)]) dX11_count_374 (by decide) (fun _ => rfl) h (fun x30 h => ?_)
        refine rw_iinc 375 [(0, .ref 243), (2, .int x30), (3, .int (v3 + 1))] dX11_count_375 2 rfl rfl (by decide) rfl ?_
        refine rw_goto 378 348 dX11_count_378 (by decide) ?_
        exact ih x30 (v3 + 1) h
set_option maxRecDepth 100000 in
theorem wX11_count_385    (μ : Mem) (K : Int32 → Option (Int32 × Mem)) {res : Int32 × Mem} (hK : ∀ (v2 : Int32), K v2 = some res → RW mX11_count 6 NF NF 418 [(2, .int v2)] [] (μ, Rf0, NF) (QN (some (.int res.1)) res.2 Rf0 NF)) : ∀ (n9 : Nat) (v2 : Int32) (v3 : Int32), fX11_count_385 μ K n9 v2 v3 = some res → RW mX11_count 6 NF NF 385 [(0, .ref 243), (2, .int v2), (3, .int v3)] [] (μ, Rf0, NF) (QN (some (.int res.1)) res.2 Rf0 NF) := by
  intro n9
  induction n9 with
  | zero => intro _ _ h; cases h
  | succ n ih =>
    intro v2 v3 h
    unfold fX11_count_385 at h
    refine rw_iload_n 385 dX11_count_385 2 rfl ?_
    refine rw_aload_n 386 dX11_count_386 0 rfl ?_
    refine rw_getR 387 11 26 kc11 dX11_count_387 ly_243 rln_243 fX11_55 rfl rf_243_26 ?_
    refine rw_aload_n 390 dX11_count_390 0 rfl ?_
    refine rw_getI 391 11 18 kc11 dX11_count_391 ly_243 rln_243 fX11_236 rfl ?_
    refine rn_iald 394 dX11_count_394 ly_256 rln_256 h (fun h => ?_)
    refine rn_icmp_ge 395 418 dX11_count_395 (by decide) h (fun _ h => ?_) (fun _ h => ?_)
    · refine rw_pick 418 [1] rfl ?_
      exact hK v2 h
    · refine rw_aload_n 398 dX11_count_398 0 rfl ?_
      refine rw_iload_n 399 dX11_count_399 2 rfl ?_
      refine rn_cVpi 400 11 [.int v3] dX11_count_400 caX11_fitBits lX11_470 inX11_fitBits slX11_fitBits rfl ly_243 ⟨_, rfl, rfl⟩ rln_243 naX11_fitBits (Nat.le_of_ble_eq_true rfl) (Nat.le_of_ble_eq_true rfl) (by decide) (fun _ hq => wX11_fitBits v3 μ hq) h (fun q33 h => ?_)
      refine rn_if_eq 403 412 dX11_count_403 (by decide) h (fun _ h => ?_) (fun _ h => ?_)
      · refine rw_iinc 412 [(0, .ref 243), (2, .int v2), (3, .int (v3 + 1))] dX11_count_412 2 rfl rfl (by decide) rfl ?_
        refine rw_goto 415 385 dX11_count_415 (by decide) ?_
        exact ih v2 (v3 + 1) h
      · refine rw_iload_n 406 dX11_count_406 1 rfl ?_
        refine rw_iconst 407 (v := 1) dX11_count_407 (by decide) ?_
        refine rw_iload_n 408 dX11_count_408 2 rfl ?_
        refine rw_ishl 409 dX11_count_409 ?_
        refine rw_ior 410 dX11_count_410 ?_
        refine rn_ist_n 411 (fun x34 => [(0, .ref 243), (2, .int x34), (3, .int v3)]) dX11_count_411 (by decide) (fun _ => rfl) h (fun x34 h => ?_)
        refine rw_iinc 412 [(0, .ref 243), (2, .int x34), (3, .int (v3 + 1))] dX11_count_412 2 rfl rfl (by decide) rfl ?_
        refine rw_goto 415 385 dX11_count_415 (by decide) ?_
        exact ih x34 (v3 + 1) h
set_option maxRecDepth 100000 in
theorem wX11_count_422    (μ : Mem) (K : Int32 → Option (Int32 × Mem)) {res : Int32 × Mem} (hK : ∀ (v2 : Int32), K v2 = some res → RW mX11_count 6 NF NF 469 [(2, .int v2)] [] (μ, Rf0, NF) (QN (some (.int res.1)) res.2 Rf0 NF)) : ∀ (n9 : Nat) (v2 : Int32) (v3 : Int32), fX11_count_422 μ K n9 v2 v3 = some res → RW mX11_count 6 NF NF 422 [(0, .ref 243), (2, .int v2), (3, .int v3)] [] (μ, Rf0, NF) (QN (some (.int res.1)) res.2 Rf0 NF) := by
  intro n9
  induction n9 with
  | zero => intro _ _ h; cases h
  | succ n ih =>
    intro v2 v3 h
    unfold fX11_count_422 at h
    refine rw_iload_n 422 dX11_count_422 2 rfl ?_
    refine rw_aload_n 423 dX11_count_423 0 rfl ?_
    refine rw_getR 424 11 23 kc11 dX11_count_424 ly_243 rln_243 fX11_46 rfl rf_243_23 ?_
    refine rw_aload_n 427 dX11_count_427 0 rfl ?_
    refine rw_getI 428 11 18 kc11 dX11_count_428 ly_243 rln_243 fX11_236 rfl ?_
    refine rn_iald 431 dX11_count_431 ly_253 rln_253 h (fun h => ?_)
    refine rn_icmp_ge 432 469 dX11_count_432 (by decide) h (fun _ h => ?_) (fun _ h => ?_)
    · refine rw_pick 469 [1] rfl ?_
      exact hK v2 h
    · refine rw_aload_n 435 dX11_count_435 0 rfl ?_
      refine rw_getR 436 11 51 kc11 dX11_count_436 ly_243 rln_243 fX11_119 rfl rf_243_51 ?_
      refine rw_bipush 439 (v := 25) dX11_count_439 (by decide) ?_
      refine rw_iload_n 441 dX11_count_441 2 rfl ?_
      refine rw_iadd 442 dX11_count_442 ?_
      refine rn_iald 443 dX11_count_443 ly_277 rln_277 h (fun h => ?_)
      refine rn_if_ne 444 463 dX11_count_444 (by decide) h (fun _ h => ?_) (fun _ h => ?_)
      · refine rw_iinc 463 [(0, .ref 243), (2, .int v2), (3, .int (v3 + 1))] dX11_count_463 2 rfl rfl (by decide) rfl ?_
        refine rw_goto 466 422 dX11_count_466 (by decide) ?_
        exact ih v2 (v3 + 1) h
      · refine rw_iload_n 447 dX11_count_447 1 rfl ?_
        refine rw_aload_n 448 dX11_count_448 0 rfl ?_
        refine rw_getR 449 11 24 kc11 dX11_count_449 ly_243 rln_243 fX11_49 rfl rf_243_24 ?_
        refine rw_iconst 452 (v := 4) dX11_count_452 (by decide) ?_
        refine rw_aload_n 453 dX11_count_453 0 rfl ?_
        refine rw_getI 454 11 18 kc11 dX11_count_454 ly_243 rln_243 fX11_236 rfl ?_
        refine rw_imul 457 dX11_count_457 ?_
        refine rw_iload_n 458 dX11_count_458 2 rfl ?_
        refine rw_iadd 459 dX11_count_459 ?_
        refine rn_iald 460 dX11_count_460 ly_254 rln_254 h (fun h => ?_)
        refine rw_iadd 461 dX11_count_461 ?_
        refine rn_ist_n 462 (fun x37 => [(0, .ref 243), (2, .int x37), (3, .int v3)]) dX11_count_462 (by decide) (fun _ => rfl) h (fun x37 h => ?_)
        refine rw_iinc 463 [(0, .ref 243), (2, .int x37), (3, .int (v3 + 1))] dX11_count_463 2 rfl rfl (by decide) rfl ?_
        refine rw_goto 466 422 dX11_count_466 (by decide) ?_
        exact ih x37 (v3 + 1) h
set_option maxRecDepth 100000 in
theorem wX11_count_473    (μ : Mem) (K : Int32 → Option (Int32 × Mem)) {res : Int32 × Mem} (hK : ∀ (v2 : Int32), K v2 = some res → RW mX11_count 6 NF NF 521 [(2, .int v2)] [] (μ, Rf0, NF) (QN (some (.int res.1)) res.2 Rf0 NF)) : ∀ (n9 : Nat) (v2 : Int32) (v3 : Int32), fX11_count_473 μ K n9 v2 v3 = some res → RW mX11_count 6 NF NF 473 [(0, .ref 243), (2, .int v2), (3, .int v3)] [] (μ, Rf0, NF) (QN (some (.int res.1)) res.2 Rf0 NF) := by
  intro n9
  induction n9 with
  | zero => intro _ _ h; cases h
  | succ n ih =>
    intro v2 v3 h
    unfold fX11_count_473 at h
    refine rw_iload_n 473 dX11_count_473 2 rfl ?_
    refine rw_aload_n 474 dX11_count_474 0 rfl ?_
    refine rw_getR 475 11 26 kc11 dX11_count_475 ly_243 rln_243 fX11_55 rfl rf_243_26 ?_
    refine rw_aload_n 478 dX11_count_478 0 rfl ?_
    refine rw_getI 479 11 18 kc11 dX11_count_479 ly_243 rln_243 fX11_236 rfl ?_
    refine rn_iald 482 dX11_count_482 ly_256 rln_256 h (fun h => ?_)
    refine rn_icmp_ge 483 521 dX11_count_483 (by decide) h (fun _ h => ?_) (fun _ h => ?_)
    · refine rw_pick 521 [1] rfl ?_
      exact hK v2 h
    · refine rw_aload_n 486 dX11_count_486 0 rfl ?_
      refine rw_getR 487 11 51 kc11 dX11_count_487 ly_243 rln_243 fX11_119 rfl rf_243_51 ?_
      refine rw_bipush 490 (v := 14) dX11_count_490 (by decide) ?_
      refine rw_iload_n 492 dX11_count_492 2 rfl ?_
      refine rw_iadd 493 dX11_count_493 ?_
      refine rn_iald 494 dX11_count_494 ly_277 rln_277 h (fun h => ?_)
      refine rn_if_ne 495 515 dX11_count_495 (by decide) h (fun _ h => ?_) (fun _ h => ?_)
      · refine rw_iinc 515 [(0, .ref 243), (2, .int v2), (3, .int (v3 + 1))] dX11_count_515 2 rfl rfl (by decide) rfl ?_
        refine rw_goto 518 473 dX11_count_518 (by decide) ?_
        exact ih v2 (v3 + 1) h
      · refine rw_iload_n 498 dX11_count_498 1 rfl ?_
        refine rw_aload_n 499 dX11_count_499 0 rfl ?_
        refine rw_getR 500 11 29 kc11 dX11_count_500 ly_243 rln_243 fX11_64 rfl rf_243_29 ?_
        refine rw_bipush 503 (v := 7) dX11_count_503 (by decide) ?_
        refine rw_aload_n 505 dX11_count_505 0 rfl ?_
        refine rw_getI 506 11 18 kc11 dX11_count_506 ly_243 rln_243 fX11_236 rfl ?_
        refine rw_imul 509 dX11_count_509 ?_
        refine rw_iload_n 510 dX11_count_510 2 rfl ?_
        refine rw_iadd 511 dX11_count_511 ?_
        refine rn_iald 512 dX11_count_512 ly_259 rln_259 h (fun h => ?_)
        refine rw_iadd 513 dX11_count_513 ?_
        refine rn_ist_n 514 (fun x40 => [(0, .ref 243), (2, .int x40), (3, .int v3)]) dX11_count_514 (by decide) (fun _ => rfl) h (fun x40 h => ?_)
        refine rw_iinc 515 [(0, .ref 243), (2, .int x40), (3, .int (v3 + 1))] dX11_count_515 2 rfl rfl (by decide) rfl ?_
        refine rw_goto 518 473 dX11_count_518 (by decide) ?_
        exact ih x40 (v3 + 1) h
set_option maxRecDepth 100000 in
theorem wX11_count (a1 : Int32) (μ : Mem) {res : Int32 × Mem} (h : fX11_count a1 μ = some res) : Ct mX11_count 6 NF NF [.ref 243, .int a1] (μ, Rf0, NF) (QN (some (.int res.1)) res.2 Rf0 NF) := by
  unfold fX11_count at h
  show RW mX11_count 6 NF NF 0 [(0, .ref 243), (1, .int a1)] [] (μ, Rf0, NF) (QN (some (.int res.1)) res.2 Rf0 NF)
  refine rw_aload_n 0 dX11_count_0 0 rfl ?_
  refine rn_cVmv 1 11 [] dX11_count_1 caX11_copies lX11_326 inX11_copies slX11_copies rfl ly_243 ⟨_, rfl, rfl⟩ rln_243 naX11_copies (Nat.le_of_ble_eq_true rfl) (Nat.le_of_ble_eq_true rfl) (by decide) (fun _ hq => wX11_copies μ hq) h (fun q1 h => ?_)
  refine rw_iconst 4 (v := 0) dX11_count_4 (by decide) ?_
  refine rw_istore_n 5 [(0, .ref 243), (1, .int a1), (2, .int 0)] dX11_count_5 (by decide) rfl ?_
  refine rw_iload_n 6 dX11_count_6 1 rfl ?_
  rcases if_b h with ⟨c2, h⟩ | ⟨c2, h⟩
  · refine rn_tab 7 0 96 dX11_count_7 c2 (by decide) (by decide) rfl (by decide) ?_
    refine rw_aload_n 96 dX11_count_96 0 rfl ?_
    refine rw_getR 97 11 23 kc11 dX11_count_97 ly_243 rln_243 fX11_46 rfl rf_243_23 ?_
    refine rw_aload_n 100 dX11_count_100 0 rfl ?_
    refine rw_getI 101 11 18 kc11 dX11_count_101 ly_243 rln_243 fX11_236 rfl ?_
    refine rn_iald 104 dX11_count_104 ly_253 rln_253 h (fun h => ?_)
    exact rn_iret2 105 dX11_count_105 rfl h
  · rcases if_b h with ⟨c3, h⟩ | ⟨c3, h⟩
    · refine rn_tab 7 1 106 dX11_count_7 c3 (by decide) (by decide) rfl (by decide) ?_
      refine rw_aload_n 106 dX11_count_106 0 rfl ?_
      refine rw_getR 107 11 26 kc11 dX11_count_107 ly_243 rln_243 fX11_55 rfl rf_243_26 ?_
      refine rw_aload_n 110 dX11_count_110 0 rfl ?_
      refine rw_getI 111 11 18 kc11 dX11_count_111 ly_243 rln_243 fX11_236 rfl ?_
      refine rn_iald 114 dX11_count_114 ly_256 rln_256 h (fun h => ?_)
      exact rn_iret2 115 dX11_count_115 rfl h
    · rcases if_b h with ⟨c4, h⟩ | ⟨c4, h⟩
      · refine rn_tab 7 2 116 dX11_count_7 c4 (by decide) (by decide) rfl (by decide) ?_
        refine rw_aload_n 116 dX11_count_116 0 rfl ?_
        refine rw_getR 117 11 51 kc11 dX11_count_117 ly_243 rln_243 fX11_119 rfl rf_243_51 ?_
        refine rw_bipush 120 (v := 29) dX11_count_120 (by decide) ?_
        refine rn_ialdc 122 dX11_count_122 ly_277 rln_277 (by decide) (j := 29) (by decide) ?_
        exact rn_iret2 123 dX11_count_123 rfl h
      · rcases if_b h with ⟨c5, h⟩ | ⟨c5, h⟩
        · refine rn_tab 7 3 124 dX11_count_7 c5 (by decide) (by decide) rfl (by decide) ?_
          refine rw_aload_n 124 dX11_count_124 0 rfl ?_
          refine rw_getR 125 11 51 kc11 dX11_count_125 ly_243 rln_243 fX11_119 rfl rf_243_51 ?_
          refine rw_bipush 128 (v := 30) dX11_count_128 (by decide) ?_
          refine rn_ialdc 130 dX11_count_130 ly_277 rln_277 (by decide) (j := 30) (by decide) ?_
          exact rn_iret2 131 dX11_count_131 rfl h
        · rcases if_b h with ⟨c6, h⟩ | ⟨c6, h⟩
          · refine rn_tab 7 4 132 dX11_count_7 c6 (by decide) (by decide) rfl (by decide) ?_
            refine rw_iconst 132 (v := 0) dX11_count_132 (by decide) ?_
            refine rw_istore_n 133 [(0, .ref 243), (1, .int a1), (2, .int 0), (3, .int 0)] dX11_count_133 (by decide) rfl ?_
            refine rw_pick 134 [0, 2, 3] rfl ?_
            refine wX11_count_134 q1 _ (fun y8 h => ?_) FU 0 0 h
            refine rw_iload_n 168 dX11_count_168 0 rfl ?_
            exact rn_iret2 169 dX11_count_169 rfl h
          · rcases if_b h with ⟨c9, h⟩ | ⟨c9, h⟩
            · refine rn_tab 7 5 170 dX11_count_7 c9 (by decide) (by decide) rfl (by decide) ?_
              refine rw_iconst 170 (v := 1) dX11_count_170 (by decide) ?_
              refine rw_aload_n 171 dX11_count_171 0 rfl ?_
              refine rw_getR 172 11 26 kc11 dX11_count_172 ly_243 rln_243 fX11_55 rfl rf_243_26 ?_
              refine rw_aload_n 175 dX11_count_175 0 rfl ?_
              refine rw_getI 176 11 18 kc11 dX11_count_176 ly_243 rln_243 fX11_236 rfl ?_
              refine rn_iald 179 dX11_count_179 ly_256 rln_256 h (fun h => ?_)
              refine rw_ishl 180 dX11_count_180 ?_
              refine rw_iconst 181 (v := 1) dX11_count_181 (by decide) ?_
              refine rw_isub 182 dX11_count_182 ?_
              refine rw_aload_n 183 dX11_count_183 0 rfl ?_
              refine rn_cVpi 184 11 [] dX11_count_184 caX11_livingBits lX11_455 inX11_livingBits slX11_livingBits rfl ly_243 ⟨_, rfl, rfl⟩ rln_243 naX11_livingBits (Nat.le_of_ble_eq_true rfl) (Nat.le_of_ble_eq_true rfl) (by decide) (fun _ hq => wX11_livingBits q1 hq) h (fun q10 h => ?_)
              refine rw_iconst 187 (v := -1) dX11_count_187 (by decide) ?_
              refine rw_ixor 188 dX11_count_188 ?_
              refine rw_iand 189 dX11_count_189 ?_
              exact rn_iret2 190 dX11_count_190 rfl h
            · rcases if_b h with ⟨c11, h⟩ | ⟨c11, h⟩
              · refine rn_tab 7 6 191 dX11_count_7 c11 (by decide) (by decide) rfl (by decide) ?_
                refine rw_iconst 191 (v := 0) dX11_count_191 (by decide) ?_
                refine rw_istore_n 192 [(0, .ref 243), (1, .int a1), (2, .int 0), (3, .int 0)] dX11_count_192 (by decide) rfl ?_
                refine rw_pick 193 [0, 2, 3] rfl ?_
                refine wX11_count_193 q1 _ (fun y13 h => ?_) FU 0 0 h
                refine rw_iload_n 226 dX11_count_226 0 rfl ?_
                exact rn_iret2 227 dX11_count_227 rfl h
              · rcases if_b h with ⟨c14, h⟩ | ⟨c14, h⟩
                · refine rn_tab 7 7 228 dX11_count_7 c14 (by decide) (by decide) rfl (by decide) ?_
                  refine rw_aload_n 228 dX11_count_228 0 rfl ?_
                  refine rn_cVmi 229 11 [] dX11_count_229 caX11_dueAll lX11_386 inX11_dueAll slX11_dueAll rfl ly_243 ⟨_, rfl, rfl⟩ rln_243 naX11_dueAll (Nat.le_of_ble_eq_true rfl) (Nat.le_of_ble_eq_true rfl) (by decide) (fun _ hq => wX11_dueAll q1 hq) h (fun q15 h => ?_)
                  exact rn_iret2 232 dX11_count_232 rfl h
                · rcases if_b h with ⟨c16, h⟩ | ⟨c16, h⟩
                  · refine rn_tab 7 8 233 dX11_count_7 c16 (by decide) (by decide) rfl (by decide) ?_
                    refine rw_aload_n 233 dX11_count_233 0 rfl ?_
                    refine rw_getI 234 11 2 kc11 dX11_count_234 ly_243 rln_243 fX11_169 rfl ?_
                    exact rn_iret2 237 dX11_count_237 rfl h
                  · rcases if_b h with ⟨c17, h⟩ | ⟨c17, h⟩
                    · refine rn_tab 7 9 238 dX11_count_7 c17 (by decide) (by decide) rfl (by decide) ?_
                      refine rw_aload_n 238 dX11_count_238 0 rfl ?_
                      refine rw_getI 239 11 56 kc11 dX11_count_239 ly_243 rln_243 fX11_254 rfl ?_
                      exact rn_iret2 242 dX11_count_242 rfl h
                    · rcases if_b h with ⟨c18, h⟩ | ⟨c18, h⟩
                      · refine rn_tab 7 10 243 dX11_count_7 c18 (by decide) (by decide) rfl (by decide) ?_
                        refine rw_aload_n 243 dX11_count_243 0 rfl ?_
                        refine rw_getI 244 11 62 kc11 dX11_count_244 ly_243 rln_243 fX11_257 rfl ?_
                        exact rn_iret2 247 dX11_count_247 rfl h
                      · rcases if_b h with ⟨c19, h⟩ | ⟨c19, h⟩
                        · refine rn_tab 7 11 248 dX11_count_7 c19 (by decide) (by decide) rfl (by decide) ?_
                          refine rw_aload_n 248 dX11_count_248 0 rfl ?_
                          refine rw_getR 249 11 65 kc11 dX11_count_249 ly_243 rln_243 fX11_149 rfl rf_243_65 ?_
                          refine rw_iconst 252 (v := 0) dX11_count_252 (by decide) ?_
                          refine rn_zaldc 253 dX11_count_253 ly_287 rln_287 (by decide) (j := 0) (by decide) ?_
                          refine rn_if_eq 254 261 dX11_count_254 (by decide) h (fun _ h => ?_) (fun _ h => ?_)
                          · refine rw_iconst 261 (v := 0) dX11_count_261 (by decide) ?_
                            refine rw_pick 262 [0] rfl ?_
                            exact wX11_count_j262 0 q1 h
                          · refine rw_iconst 257 (v := 1) dX11_count_257 (by decide) ?_
                            refine rw_goto 258 262 dX11_count_258 (by decide) ?_
                            refine rw_pick 262 [0] rfl ?_
                            exact wX11_count_j262 1 q1 h
                        · rcases if_b h with ⟨c20, h⟩ | ⟨c20, h⟩
                          · refine rn_tab 7 12 293 dX11_count_7 c20 (by decide) (by decide) rfl (by decide) ?_
                            refine rw_aload_n 293 dX11_count_293 0 rfl ?_
                            refine rw_bipush 294 (v := 21) dX11_count_294 (by decide) ?_
                            refine rw_iconst 296 (v := 4) dX11_count_296 (by decide) ?_
                            refine rn_cVpi 297 11 [.int 21, .int 4] dX11_count_297 caX11_sumNow lX11_488 inX11_sumNow slX11_sumNow rfl ly_243 ⟨_, rfl, rfl⟩ rln_243 naX11_sumNow (Nat.le_of_ble_eq_true rfl) (Nat.le_of_ble_eq_true rfl) (by decide) (fun _ hq => wX11_sumNow 21 4 q1 hq) h (fun q21 h => ?_)
                            exact rn_iret2 300 dX11_count_300 rfl h
                          · rcases if_b h with ⟨c22, h⟩ | ⟨c22, h⟩
                            · refine rn_tab 7 13 301 dX11_count_7 c22 (by decide) (by decide) rfl (by decide) ?_
                              refine rw_aload_n 301 dX11_count_301 0 rfl ?_
                              refine rw_bipush 302 (v := 7) dX11_count_302 (by decide) ?_
                              refine rw_bipush 304 (v := 7) dX11_count_304 (by decide) ?_
                              refine rn_cVpi 306 11 [.int 7, .int 7] dX11_count_306 caX11_sumNow lX11_488 inX11_sumNow slX11_sumNow rfl ly_243 ⟨_, rfl, rfl⟩ rln_243 naX11_sumNow (Nat.le_of_ble_eq_true rfl) (Nat.le_of_ble_eq_true rfl) (by decide) (fun _ hq => wX11_sumNow 7 7 q1 hq) h (fun q23 h => ?_)
                              exact rn_iret2 309 dX11_count_309 rfl h
                            · rcases if_b h with ⟨c24, h⟩ | ⟨c24, h⟩
                              · refine rn_tab 7 14 310 dX11_count_7 c24 (by decide) (by decide) rfl (by decide) ?_
                                refine rw_iconst 310 (v := 0) dX11_count_310 (by decide) ?_
                                refine rw_istore_n 311 [(0, .ref 243), (1, .int a1), (2, .int 0), (3, .int 0)] dX11_count_311 (by decide) rfl ?_
                                refine rw_pick 312 [0, 2, 3] rfl ?_
                                refine wX11_count_312 q1 _ (fun y27 h => ?_) FU 0 0 h
                                refine rw_iload_n 342 dX11_count_342 0 rfl ?_
                                refine rw_iconst 343 (v := 2) dX11_count_343 (by decide) ?_
                                refine rw_idiv 344 dX11_count_344 (by decide) ?_
                                exact rn_iret2 345 dX11_count_345 rfl h
                              · rcases if_b h with ⟨c28, h⟩ | ⟨c28, h⟩
                                · refine rn_tab 7 15 346 dX11_count_7 c28 (by decide) (by decide) rfl (by decide) ?_
                                  refine rw_iconst 346 (v := 0) dX11_count_346 (by decide) ?_
                                  refine rw_istore_n 347 [(0, .ref 243), (1, .int a1), (2, .int 0), (3, .int 0)] dX11_count_347 (by decide) rfl ?_
                                  refine rw_pick 348 [0, 2, 3] rfl ?_
                                  refine wX11_count_348 q1 _ (fun y31 h => ?_) FU 0 0 h
                                  refine rw_iload_n 381 dX11_count_381 0 rfl ?_
                                  exact rn_iret2 382 dX11_count_382 rfl h
                                · rcases if_b h with ⟨c32, h⟩ | ⟨c32, h⟩
                                  · refine rn_tab 7 16 383 dX11_count_7 c32 (by decide) (by decide) rfl (by decide) ?_
                                    refine rw_iconst 383 (v := 0) dX11_count_383 (by decide) ?_
                                    refine rw_istore_n 384 [(0, .ref 243), (1, .int a1), (2, .int 0), (3, .int 0)] dX11_count_384 (by decide) rfl ?_
                                    refine rw_pick 385 [0, 2, 3] rfl ?_
                                    refine wX11_count_385 q1 _ (fun y35 h => ?_) FU 0 0 h
                                    refine rw_iload_n 418 dX11_count_418 0 rfl ?_
                                    exact rn_iret2 419 dX11_count_419 rfl h
                                  · rcases if_b h with ⟨c36, h⟩ | ⟨c36, h⟩
                                    · refine rn_tab 7 17 420 dX11_count_7 c36 (by decide) (by decide) rfl (by decide) ?_
                                      refine rw_iconst 420 (v := 0) dX11_count_420 (by decide) ?_
                                      refine rw_istore_n 421 [(0, .ref 243), (1, .int a1), (2, .int 0), (3, .int 0)] dX11_count_421 (by decide) rfl ?_
                                      refine rw_pick 422 [0, 2, 3] rfl ?_
                                      refine wX11_count_422 q1 _ (fun y38 h => ?_) FU 0 0 h
                                      refine rw_iload_n 469 dX11_count_469 0 rfl ?_
                                      exact rn_iret2 470 dX11_count_470 rfl h
                                    · rcases if_b h with ⟨c39, h⟩ | ⟨c39, h⟩
                                      · refine rn_tab 7 18 471 dX11_count_7 c39 (by decide) (by decide) rfl (by decide) ?_
                                        refine rw_iconst 471 (v := 0) dX11_count_471 (by decide) ?_
                                        refine rw_istore_n 472 [(0, .ref 243), (1, .int a1), (2, .int 0), (3, .int 0)] dX11_count_472 (by decide) rfl ?_
                                        refine rw_pick 473 [0, 2, 3] rfl ?_
                                        refine wX11_count_473 q1 _ (fun y41 h => ?_) FU 0 0 h
                                        refine rw_iload_n 521 dX11_count_521 0 rfl ?_
                                        exact rn_iret2 522 dX11_count_522 rfl h
                                      · refine rw_tabOut 7 (x := a1) 523 dX11_count_7 (by have := ne_int c2 (k := 0) (by decide); have := ne_int c3 (k := 1) (by decide); have := ne_int c4 (k := 2) (by decide); have := ne_int c5 (k := 3) (by decide); have := ne_int c6 (k := 4) (by decide); have := ne_int c9 (k := 5) (by decide); have := ne_int c11 (k := 6) (by decide); have := ne_int c14 (k := 7) (by decide); have := ne_int c16 (k := 8) (by decide); have := ne_int c17 (k := 9) (by decide); have := ne_int c18 (k := 10) (by decide); have := ne_int c19 (k := 11) (by decide); have := ne_int c20 (k := 12) (by decide); have := ne_int c22 (k := 13) (by decide); have := ne_int c24 (k := 14) (by decide); have := ne_int c28 (k := 15) (by decide); have := ne_int c32 (k := 16) (by decide); have := ne_int c36 (k := 17) (by decide); have := ne_int c39 (k := 18) (by decide); omega) (by decide) ?_
                                        refine rw_iconst 523 (v := -1) dX11_count_523 (by decide) ?_
                                        exact rn_iret2 524 dX11_count_524 rfl h
