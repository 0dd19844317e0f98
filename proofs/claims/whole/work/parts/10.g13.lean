def fX11_alone_28   (v1 : Int32) (v2 : Int32) (μ : Mem) (K : Int32 → Option (Int32 × Mem)) : Nat → Int32 → Int32 → Option (Int32 × Mem)
  | 0, _, _ => none
  | n + 1, v3, v4 =>
    if inb (μ.1 243 18) 2 then
    if v4 < ((1 : Int32) <<< ((μ.1 256 (μ.1 243 18).toNatClampNeg) &&& 31)) then
      if inb ((128 * v1) + v4) 512 then
      if inb ((128 * v1) + v3) 512 then
      if (μ.1 281 ((128 * v1) + v3).toNatClampNeg) < (μ.1 281 ((128 * v1) + v4).toNatClampNeg) then
        fX11_alone_28 v1 v2 μ K n v4 (v4 + 1)
      else
        fX11_alone_28 v1 v2 μ K n v3 (v4 + 1)
      else none
      else none
    else
      K v3
    else none
def fX11_alone (a1 : Int32) (a2 : Int32) (μ : Mem) : Option (Int32 × Mem) :=
  (fX11_isSunday a1 μ).bind fun q1 =>
  if q1 = true then
    (fX11_in a2 0 1 μ).bind fun q2 =>
    if q2 = true then
      (fX11_fillsValues μ).bind fun q3 =>
      fX11_alone_28 a1 a2 q3 (fun y4 =>
          if a2 = 0 then
            if inb ((128 * a1) + y4) 512 then
            some ((q3.1 281 ((128 * a1) + y4).toNatClampNeg), q3)
            else none
          else
            some (y4, q3)
      ) FU 0 1
    else
      some ((-1), μ)
  else
    some ((-1), μ)
set_option maxRecDepth 100000 in
theorem wX11_alone_28   (v1 : Int32) (v2 : Int32) (μ : Mem) (K : Int32 → Option (Int32 × Mem)) {res : Int32 × Mem} (hK : ∀ (v3 : Int32), K v3 = some res → RW mX11_alone 6 NF NF 81 [(0, .ref 243), (1, .int v1), (2, .int v2), (3, .int v3)] [] (μ, Rf0, NF) (QN (some (.int res.1)) res.2 Rf0 NF)) : ∀ (n9 : Nat) (v3 : Int32) (v4 : Int32), fX11_alone_28 v1 v2 μ K n9 v3 v4 = some res → RW mX11_alone 6 NF NF 28 [(0, .ref 243), (1, .int v1), (2, .int v2), (3, .int v3), (4, .int v4)] [] (μ, Rf0, NF) (QN (some (.int res.1)) res.2 Rf0 NF) := by
  intro n9
  induction n9 with
  | zero => intro _ _ h; cases h
  | succ n ih =>
    intro v3 v4 h
    unfold fX11_alone_28 at h
    refine rw_iload 28 dX11_alone_28 4 rfl ?_
    refine rw_iconst 30 (v := 1) dX11_alone_30 (by decide) ?_
    refine rw_aload_n 31 dX11_alone_31 0 rfl ?_
    refine rw_getR 32 11 26 kc11 dX11_alone_32 ly_243 rln_243 fX11_55 rfl rf_243_26 ?_
    refine rw_aload_n 35 dX11_alone_35 0 rfl ?_
    refine rw_getI 36 11 18 kc11 dX11_alone_36 ly_243 rln_243 fX11_236 rfl ?_
    refine rn_iald 39 dX11_alone_39 ly_256 rln_256 h (fun h => ?_)
    refine rw_ishl 40 dX11_alone_40 ?_
    refine rn_icmp_ge 41 81 dX11_alone_41 (by decide) h (fun _ h => ?_) (fun _ h => ?_)
    · refine rw_pick 81 [0, 1, 2, 3] rfl ?_
      exact hK v3 h
    · refine rw_aload_n 44 dX11_alone_44 0 rfl ?_
      refine rw_getR 45 11 58 kc11 dX11_alone_45 ly_243 rln_243 fX11_131 rfl rf_243_58 ?_
      refine rw_sipush 48 (v := 128) dX11_alone_48 (by decide) ?_
      refine rw_iload_n 51 dX11_alone_51 1 rfl ?_
      refine rw_imul 52 dX11_alone_52 ?_
      refine rw_iload 53 dX11_alone_53 4 rfl ?_
      refine rw_iadd 55 dX11_alone_55 ?_
      refine rn_iald 56 dX11_alone_56 ly_281 rln_281 h (fun h => ?_)
      refine rw_aload_n 57 dX11_alone_57 0 rfl ?_
      refine rw_getR 58 11 58 kc11 dX11_alone_58 ly_243 rln_243 fX11_131 rfl rf_243_58 ?_
      refine rw_sipush 61 (v := 128) dX11_alone_61 (by decide) ?_
      refine rw_iload_n 64 dX11_alone_64 1 rfl ?_
      refine rw_imul 65 dX11_alone_65 ?_
      refine rw_iload_n 66 dX11_alone_66 3 rfl ?_
      refine rw_iadd 67 dX11_alone_67 ?_
      refine rn_iald 68 dX11_alone_68 ly_281 rln_281 h (fun h => ?_)
      refine rn_icmp_le 69 75 dX11_alone_69 (by decide) h (fun _ h => ?_) (fun _ h => ?_)
      · refine rw_iinc 75 [(0, .ref 243), (1, .int v1), (2, .int v2), (3, .int v3), (4, .int (v4 + 1))] dX11_alone_75 4 rfl rfl (by decide) rfl ?_
        refine rw_goto 78 28 dX11_alone_78 (by decide) ?_
        exact ih v3 (v4 + 1) h
      · refine rw_iload 72 dX11_alone_72 4 rfl ?_
        refine rw_istore_n 74 [(0, .ref 243), (1, .int v1), (2, .int v2), (3, .int v4), (4, .int v4)] dX11_alone_74 (by decide) rfl ?_
        refine rw_iinc 75 [(0, .ref 243), (1, .int v1), (2, .int v2), (3, .int v4), (4, .int (v4 + 1))] dX11_alone_75 4 rfl rfl (by decide) rfl ?_
        refine rw_goto 78 28 dX11_alone_78 (by decide) ?_
        exact ih v4 (v4 + 1) h
set_option maxRecDepth 100000 in
theorem wX11_alone (a1 : Int32) (a2 : Int32) (μ : Mem) {res : Int32 × Mem} (h : fX11_alone a1 a2 μ = some res) : Ct mX11_alone 6 NF NF [.ref 243, .int a1, .int a2] (μ, Rf0, NF) (QN (some (.int res.1)) res.2 Rf0 NF) := by
  unfold fX11_alone at h
  show RW mX11_alone 6 NF NF 0 [(0, .ref 243), (1, .int a1), (2, .int a2)] [] (μ, Rf0, NF) (QN (some (.int res.1)) res.2 Rf0 NF)
  refine rw_aload_n 0 dX11_alone_0 0 rfl ?_
  refine rw_iload_n 1 dX11_alone_1 1 rfl ?_
  refine rn_cVpb 2 11 [.int a1] dX11_alone_2 caX11_isSunday lX11_404 inX11_isSunday slX11_isSunday rfl ly_243 ⟨_, rfl, rfl⟩ rln_243 naX11_isSunday (Nat.le_of_ble_eq_true rfl) (Nat.le_of_ble_eq_true rfl) (by decide) (fun _ hq => wX11_isSunday a1 μ hq) h (fun q1 h => ?_)
  refine rn_ifb_eq 5 17 dX11_alone_5 (by decide) h (fun _ h => ?_) (fun _ h => ?_)
  · refine rw_iconst 17 (v := -1) dX11_alone_17 (by decide) ?_
    exact rn_iret2 18 dX11_alone_18 rfl h
  · refine rw_iload_n 8 dX11_alone_8 2 rfl ?_
    refine rw_iconst 9 (v := 0) dX11_alone_9 (by decide) ?_
    refine rw_iconst 10 (v := 1) dX11_alone_10 (by decide) ?_
    refine rn_cSpb 11 [.int a2, .int 0, .int 1] dX11_alone_11 caX11_in lX11_316 stX11_in rfl naX11_in (Nat.le_of_ble_eq_true rfl) (Nat.le_of_ble_eq_true rfl) (by decide) (fun _ hq => wX11_in a2 0 1 μ hq) h (fun q2 h => ?_)
    refine rn_ifb_ne 14 19 dX11_alone_14 (by decide) h (fun _ h => ?_) (fun _ h => ?_)
    · refine rw_aload_n 19 dX11_alone_19 0 rfl ?_
      refine rn_cVmv 20 11 [] dX11_alone_20 caX11_fillsValues lX11_440 inX11_fillsValues slX11_fillsValues rfl ly_243 ⟨_, rfl, rfl⟩ rln_243 naX11_fillsValues (Nat.le_of_ble_eq_true rfl) (Nat.le_of_ble_eq_true rfl) (by decide) (fun _ hq => wX11_fillsValues μ hq) h (fun q3 h => ?_)
      refine rw_iconst 23 (v := 0) dX11_alone_23 (by decide) ?_
      refine rw_istore_n 24 [(0, .ref 243), (1, .int a1), (2, .int a2), (3, .int 0)] dX11_alone_24 (by decide) rfl ?_
      refine rw_iconst 25 (v := 1) dX11_alone_25 (by decide) ?_
      refine rw_istore 26 [(0, .ref 243), (1, .int a1), (2, .int a2), (3, .int 0), (4, .int 1)] dX11_alone_26 (by decide) rfl ?_
      refine wX11_alone_28 a1 a2 q3 _ (fun y4 h => ?_) FU 0 1 h
      refine rw_iload_n 81 dX11_alone_81 2 rfl ?_
      refine rn_if_ne 82 100 dX11_alone_82 (by decide) h (fun _ h => ?_) (fun _ h => ?_)
      · refine rw_iload_n 100 dX11_alone_100 3 rfl ?_
        exact rn_iret2 101 dX11_alone_101 rfl h
      · refine rw_aload_n 85 dX11_alone_85 0 rfl ?_
        refine rw_getR 86 11 58 kc11 dX11_alone_86 ly_243 rln_243 fX11_131 rfl rf_243_58 ?_
        refine rw_sipush 89 (v := 128) dX11_alone_89 (by decide) ?_
        refine rw_iload_n 92 dX11_alone_92 1 rfl ?_
        refine rw_imul 93 dX11_alone_93 ?_
        refine rw_iload_n 94 dX11_alone_94 3 rfl ?_
        refine rw_iadd 95 dX11_alone_95 ?_
        refine rn_iald 96 dX11_alone_96 ly_281 rln_281 h (fun h => ?_)
        refine rw_goto 97 101 dX11_alone_97 (by decide) ?_
        exact rn_iret2 101 dX11_alone_101 rfl h
    · refine rw_iconst 17 (v := -1) dX11_alone_17 (by decide) ?_
      exact rn_iret2 18 dX11_alone_18 rfl h
def fX11_bestWith (a1 : Int32) (a2 : Int32) (a3 : Int32) (μ : Mem) : Option (Int32) :=
  if inb ((128 * a1) + a2) 512 then
  if inb ((128 * a1) + (a3 &&& (a2 ^^^ (-1)))) 640 then
  some ((μ.1 281 ((128 * a1) + a2).toNatClampNeg) + (μ.1 282 ((128 * a1) + (a3 &&& (a2 ^^^ (-1)))).toNatClampNeg))
  else none
  else none
set_option maxRecDepth 100000 in
theorem wX11_bestWith (a1 : Int32) (a2 : Int32) (a3 : Int32) (μ : Mem) {res : Int32} (h : fX11_bestWith a1 a2 a3 μ = some res) : Ct mX11_bestWith 1 NF NF [.ref 243, .int a1, .int a2, .int a3] (μ, Rf0, NF) (QN (some (.int res)) μ Rf0 NF) := by
  unfold fX11_bestWith at h
  show RW mX11_bestWith 1 NF NF 0 [(0, .ref 243), (1, .int a1), (2, .int a2), (3, .int a3)] [] (μ, Rf0, NF) (QN (some (.int res)) μ Rf0 NF)
  refine rw_aload_n 0 dX11_bestWith_0 0 rfl ?_
  refine rw_getR 1 11 58 kc11 dX11_bestWith_1 ly_243 rln_243 fX11_131 rfl rf_243_58 ?_
  refine rw_sipush 4 (v := 128) dX11_bestWith_4 (by decide) ?_
  refine rw_iload_n 7 dX11_bestWith_7 1 rfl ?_
  refine rw_imul 8 dX11_bestWith_8 ?_
  refine rw_iload_n 9 dX11_bestWith_9 2 rfl ?_
  refine rw_iadd 10 dX11_bestWith_10 ?_
  refine rn_iald 11 dX11_bestWith_11 ly_281 rln_281 h (fun h => ?_)
  refine rw_aload_n 12 dX11_bestWith_12 0 rfl ?_
  refine rw_getR 13 11 59 kc11 dX11_bestWith_13 ly_243 rln_243 fX11_134 rfl rf_243_59 ?_
  refine rw_sipush 16 (v := 128) dX11_bestWith_16 (by decide) ?_
  refine rw_iload_n 19 dX11_bestWith_19 1 rfl ?_
  refine rw_imul 20 dX11_bestWith_20 ?_
  refine rw_iload_n 21 dX11_bestWith_21 3 rfl ?_
  refine rw_iload_n 22 dX11_bestWith_22 2 rfl ?_
  refine rw_iconst 23 (v := -1) dX11_bestWith_23 (by decide) ?_
  refine rw_ixor 24 dX11_bestWith_24 ?_
  refine rw_iand 25 dX11_bestWith_25 ?_
  refine rw_iadd 26 dX11_bestWith_26 ?_
  refine rn_iald 27 dX11_bestWith_27 ly_282 rln_282 h (fun h => ?_)
  refine rw_iadd 28 dX11_bestWith_28 ?_
  exact rn_iret 29 dX11_bestWith_29 rfl h
def fX11_canBe (a1 : Int32) (a2 : Int32) (a3 : Int32) (μ : Mem) : Option (Bool) :=
  (fX11_isPart a2 a3 μ).bind fun q1 =>
  if q1 = true then
    if inb ((128 * a1) + a2) 512 then
    if (μ.1 281 ((128 * a1) + a2).toNatClampNeg) < 0 then
      some false
    else
      some true
    else none
  else
    some false
set_option maxRecDepth 100000 in
theorem wX11_canBe (a1 : Int32) (a2 : Int32) (a3 : Int32) (μ : Mem) {res : Bool} (h : fX11_canBe a1 a2 a3 μ = some res) : Ct mX11_canBe 2 NF NF [.ref 243, .int a1, .int a2, .int a3] (μ, Rf0, NF) (QN (some (.int (b2i res))) μ Rf0 NF) := by
  unfold fX11_canBe at h
  show RW mX11_canBe 2 NF NF 0 [(0, .ref 243), (1, .int a1), (2, .int a2), (3, .int a3)] [] (μ, Rf0, NF) (QN (some (.int (b2i res))) μ Rf0 NF)
  refine rw_iload_n 0 dX11_canBe_0 2 rfl ?_
  refine rw_iload_n 1 dX11_canBe_1 3 rfl ?_
  refine rn_cSpb 2 [.int a2, .int a3] dX11_canBe_2 caX11_isPart lX11_443 stX11_isPart rfl naX11_isPart (Nat.le_of_ble_eq_true rfl) (Nat.le_of_ble_eq_true rfl) (by decide) (fun _ hq => wX11_isPart a2 a3 μ hq) h (fun q1 h => ?_)
  refine rn_ifb_eq 5 27 dX11_canBe_5 (by decide) h (fun _ h => ?_) (fun _ h => ?_)
  · refine rw_iconst 27 (v := 0) dX11_canBe_27 (by decide) ?_
    exact rn_zret 28 (v := false) dX11_canBe_28 rfl h
  · refine rw_aload_n 8 dX11_canBe_8 0 rfl ?_
    refine rw_getR 9 11 58 kc11 dX11_canBe_9 ly_243 rln_243 fX11_131 rfl rf_243_58 ?_
    refine rw_sipush 12 (v := 128) dX11_canBe_12 (by decide) ?_
    refine rw_iload_n 15 dX11_canBe_15 1 rfl ?_
    refine rw_imul 16 dX11_canBe_16 ?_
    refine rw_iload_n 17 dX11_canBe_17 2 rfl ?_
    refine rw_iadd 18 dX11_canBe_18 ?_
    refine rn_iald 19 dX11_canBe_19 ly_281 rln_281 h (fun h => ?_)
    refine rn_if_lt 20 27 dX11_canBe_20 (by decide) h (fun _ h => ?_) (fun _ h => ?_)
    · refine rw_iconst 27 (v := 0) dX11_canBe_27 (by decide) ?_
      exact rn_zret 28 (v := false) dX11_canBe_28 rfl h
    · refine rw_iconst 23 (v := 1) dX11_canBe_23 (by decide) ?_
      refine rw_goto 24 28 dX11_canBe_24 (by decide) ?_
      exact rn_zret 28 (v := true) dX11_canBe_28 rfl h
def fX11_fillsBest_6     (K : Mem → Option (Mem)) : Nat → Int32 → Mem → Option (Mem)
  | 0, _, _ => none
  | n + 1, v1, μ =>
    if v1 < 128 then
      if inb v1 640 then nm (wI μ 282 v1.toNatClampNeg 0) fun μ2 =>
      fX11_fillsBest_6 K n (v1 + 1) μ2
      else none
    else
      K μ
def fX11_fillsBest_63   (v1 : Int32) (v2 : Int32) (μ : Mem) (K : Int32 → Option (Mem)) : Nat → Int32 → Int32 → Option (Mem)
  | 0, _, _ => none
  | n + 1, v3, v4 =>
    if v2 < v4 then
      K v3
    else
      (fX11_canBe v1 v4 v2 μ).bind fun q4 =>
      if q4 = true then
        (fX11_bestWith v1 v4 v2 μ).bind fun q5 =>
        if v3 < q5 then
          (fX11_bestWith v1 v4 v2 μ).bind fun q6 =>
          fX11_fillsBest_63 v1 v2 μ K n q6 (v4 + 1)
        else
          fX11_fillsBest_63 v1 v2 μ K n v3 (v4 + 1)
      else
        fX11_fillsBest_63 v1 v2 μ K n v3 (v4 + 1)
def fX11_fillsBest_43   (v1 : Int32)  (K : Mem → Option (Mem)) : Nat → Int32 → Mem → Option (Mem)
  | 0, _, _ => none
  | n + 1, v2, μ =>
    if inb (μ.1 243 18) 2 then
    if v2 < ((1 : Int32) <<< ((μ.1 256 (μ.1 243 18).toNatClampNeg) &&& 31)) then
      fX11_fillsBest_63 v1 v2 μ (fun y7 =>
          if inb (((128 * v1) + 128) + v2) 640 then nm (wI μ 282 (((128 * v1) + 128) + v2).toNatClampNeg y7) fun μ8 =>
          fX11_fillsBest_43 v1 K n (v2 + 1) μ8
          else none
      ) FU 0 0
    else
      K μ
    else none
def fX11_fillsBest_28     (K : Mem → Option (Mem)) : Nat → Int32 → Mem → Option (Mem)
  | 0, _, _ => none
  | n + 1, v1, μ =>
    if inb (μ.1 243 18) 2 then
    if v1 < (μ.1 253 (μ.1 243 18).toNatClampNeg) then
      fX11_fillsBest_43 v1 (fun μ9 =>
          fX11_fillsBest_28 K n (v1 + 1) μ9
      ) FU 0 μ
    else
      K μ
    else none
def fX11_fillsBest  (μ : Mem) : Option (Mem) :=
  (fX11_fillsValues μ).bind fun q1 =>
  fX11_fillsBest_6  (fun μ3 =>
      fX11_fillsBest_28  (fun μ10 =>
          some μ10
      ) FU 0 μ3
  ) FU 0 q1
set_option maxRecDepth 100000 in
theorem wX11_fillsBest_6     (K : Mem → Option (Mem)) {res : Mem} (hK : ∀  (μ : Mem), K μ = some res → RW mX11_fillsBest 6 NF NF 26 [(0, .ref 243)] [] (μ, Rf0, NF) (QN none res Rf0 NF)) : ∀ (n9 : Nat) (v1 : Int32) (μ : Mem), fX11_fillsBest_6 K n9 v1 μ = some res → RW mX11_fillsBest 6 NF NF 6 [(0, .ref 243), (1, .int v1)] [] (μ, Rf0, NF) (QN none res Rf0 NF) := by
  intro n9
  induction n9 with
  | zero => intro _ _ h; cases h
  | succ n ih =>
    intro v1 μ h
    unfold fX11_fillsBest_6 at h
    refine rw_iload_n 6 dX11_fillsBest_6 1 rfl ?_
    refine rw_sipush 7 (v := 128) dX11_fillsBest_7 (by decide) ?_
    refine rn_icmp_ge 10 26 dX11_fillsBest_10 (by decide) h (fun _ h => ?_) (fun _ h => ?_)
    · refine rw_pick 26 [0] rfl ?_
      exact hK μ h
    · refine rw_aload_n 13 dX11_fillsBest_13 0 rfl ?_
      refine rw_getR 14 11 59 kc11 dX11_fillsBest_14 ly_243 rln_243 fX11_134 rfl rf_243_59 ?_
      refine rw_iload_n 17 dX11_fillsBest_17 1 rfl ?_
      refine rw_iconst 18 (v := 0) dX11_fillsBest_18 (by decide) ?_
      refine rn_iast 19 dX11_fillsBest_19 ly_282 rln_282 h (fun μ2 h => ?_)
      refine rw_iinc 20 [(0, .ref 243), (1, .int (v1 + 1))] dX11_fillsBest_20 1 rfl rfl (by decide) rfl ?_
      refine rw_goto 23 6 dX11_fillsBest_23 (by decide) ?_
      exact ih (v1 + 1) μ2 h
set_option maxRecDepth 100000 in
theorem wX11_fillsBest_63   (v1 : Int32) (v2 : Int32) (μ : Mem) (K : Int32 → Option (Mem)) {res : Mem} (hK : ∀ (v3 : Int32), K v3 = some res → RW mX11_fillsBest 6 NF NF 107 [(0, .ref 243), (1, .int v1), (2, .int v2), (3, .int v3)] [] (μ, Rf0, NF) (QN none res Rf0 NF)) : ∀ (n9 : Nat) (v3 : Int32) (v4 : Int32), fX11_fillsBest_63 v1 v2 μ K n9 v3 v4 = some res → RW mX11_fillsBest 6 NF NF 63 [(0, .ref 243), (1, .int v1), (2, .int v2), (3, .int v3), (4, .int v4)] [] (μ, Rf0, NF) (QN none res Rf0 NF) := by
  intro n9
  induction n9 with
  | zero => intro _ _ h; cases h
  | succ n ih =>
    intro v3 v4 h
    unfold fX11_fillsBest_63 at h
    refine rw_iload 63 dX11_fillsBest_63 4 rfl ?_
    refine rw_iload_n 65 dX11_fillsBest_65 2 rfl ?_
    refine rn_icmp_gt 66 107 dX11_fillsBest_66 (by decide) h (fun _ h => ?_) (fun _ h => ?_)
    · refine rw_pick 107 [0, 1, 2, 3] rfl ?_
      exact hK v3 h
    · refine rw_aload_n 69 dX11_fillsBest_69 0 rfl ?_
      refine rw_iload_n 70 dX11_fillsBest_70 1 rfl ?_
      refine rw_iload 71 dX11_fillsBest_71 4 rfl ?_
      refine rw_iload_n 73 dX11_fillsBest_73 2 rfl ?_
      refine rn_cVpb 74 11 [.int v1, .int v4, .int v2] dX11_fillsBest_74 caX11_canBe lX11_446 inX11_canBe slX11_canBe rfl ly_243 ⟨_, rfl, rfl⟩ rln_243 naX11_canBe (Nat.le_of_ble_eq_true rfl) (Nat.le_of_ble_eq_true rfl) (by decide) (fun _ hq => wX11_canBe v1 v4 v2 μ hq) h (fun q4 h => ?_)
      refine rn_ifb_eq 77 101 dX11_fillsBest_77 (by decide) h (fun _ h => ?_) (fun _ h => ?_)
      · refine rw_iinc 101 [(0, .ref 243), (1, .int v1), (2, .int v2), (3, .int v3), (4, .int (v4 + 1))] dX11_fillsBest_101 4 rfl rfl (by decide) rfl ?_
        refine rw_goto 104 63 dX11_fillsBest_104 (by decide) ?_
        exact ih v3 (v4 + 1) h
      · refine rw_aload_n 80 dX11_fillsBest_80 0 rfl ?_
        refine rw_iload_n 81 dX11_fillsBest_81 1 rfl ?_
        refine rw_iload 82 dX11_fillsBest_82 4 rfl ?_
        refine rw_iload_n 84 dX11_fillsBest_84 2 rfl ?_
        refine rn_cVpi 85 11 [.int v1, .int v4, .int v2] dX11_fillsBest_85 caX11_bestWith lX11_449 inX11_bestWith slX11_bestWith rfl ly_243 ⟨_, rfl, rfl⟩ rln_243 naX11_bestWith (Nat.le_of_ble_eq_true rfl) (Nat.le_of_ble_eq_true rfl) (by decide) (fun _ hq => wX11_bestWith v1 v4 v2 μ hq) h (fun q5 h => ?_)
        refine rw_iload_n 88 dX11_fillsBest_88 3 rfl ?_
        refine rn_icmp_le 89 101 dX11_fillsBest_89 (by decide) h (fun _ h => ?_) (fun _ h => ?_)
        · refine rw_iinc 101 [(0, .ref 243), (1, .int v1), (2, .int v2), (3, .int v3), (4, .int (v4 + 1))] dX11_fillsBest_101 4 rfl rfl (by decide) rfl ?_
          refine rw_goto 104 63 dX11_fillsBest_104 (by decide) ?_
          exact ih v3 (v4 + 1) h
        · refine rw_aload_n 92 dX11_fillsBest_92 0 rfl ?_
          refine rw_iload_n 93 dX11_fillsBest_93 1 rfl ?_
          refine rw_iload 94 dX11_fillsBest_94 4 rfl ?_
          refine rw_iload_n 96 dX11_fillsBest_96 2 rfl ?_
          refine rn_cVpi 97 11 [.int v1, .int v4, .int v2] dX11_fillsBest_97 caX11_bestWith lX11_449 inX11_bestWith slX11_bestWith rfl ly_243 ⟨_, rfl, rfl⟩ rln_243 naX11_bestWith (Nat.le_of_ble_eq_true rfl) (Nat.le_of_ble_eq_true rfl) (by decide) (fun _ hq => wX11_bestWith v1 v4 v2 μ hq) h (fun q6 h => ?_)
          refine rw_istore_n 100 [(0, .ref 243), (1, .int v1), (2, .int v2), (3, .int q6), (4, .int v4)] dX11_fillsBest_100 (by decide) rfl ?_
          refine rw_iinc 101 [(0, .ref 243), (1, .int v1), (2, .int v2), (3, .int q6), (4, .int (v4 + 1))] dX11_fillsBest_101 4 rfl rfl (by decide) rfl ?_
          refine rw_goto 104 63 dX11_fillsBest_104 (by decide) ?_
          exact ih q6 (v4 + 1) h
set_option maxRecDepth 100000 in
theorem wX11_fillsBest_43   (v1 : Int32)  (K : Mem → Option (Mem)) {res : Mem} (hK : ∀  (μ : Mem), K μ = some res → RW mX11_fillsBest 6 NF NF 130 [(0, .ref 243), (1, .int v1)] [] (μ, Rf0, NF) (QN none res Rf0 NF)) : ∀ (n9 : Nat) (v2 : Int32) (μ : Mem), fX11_fillsBest_43 v1 K n9 v2 μ = some res → RW mX11_fillsBest 6 NF NF 43 [(0, .ref 243), (1, .int v1), (2, .int v2)] [] (μ, Rf0, NF) (QN none res Rf0 NF) := by
  intro n9
  induction n9 with
  | zero => intro _ _ h; cases h
  | succ n ih =>
    intro v2 μ h
    unfold fX11_fillsBest_43 at h
    refine rw_iload_n 43 dX11_fillsBest_43 2 rfl ?_
    refine rw_iconst 44 (v := 1) dX11_fillsBest_44 (by decide) ?_
    refine rw_aload_n 45 dX11_fillsBest_45 0 rfl ?_
    refine rw_getR 46 11 26 kc11 dX11_fillsBest_46 ly_243 rln_243 fX11_55 rfl rf_243_26 ?_
    refine rw_aload_n 49 dX11_fillsBest_49 0 rfl ?_
    refine rw_getI 50 11 18 kc11 dX11_fillsBest_50 ly_243 rln_243 fX11_236 rfl ?_
    refine rn_iald 53 dX11_fillsBest_53 ly_256 rln_256 h (fun h => ?_)
    refine rw_ishl 54 dX11_fillsBest_54 ?_
    refine rn_icmp_ge 55 130 dX11_fillsBest_55 (by decide) h (fun _ h => ?_) (fun _ h => ?_)
    · refine rw_pick 130 [0, 1] rfl ?_
      exact hK μ h
    · refine rw_iconst 58 (v := 0) dX11_fillsBest_58 (by decide) ?_
      refine rw_istore_n 59 [(0, .ref 243), (1, .int v1), (2, .int v2), (3, .int 0)] dX11_fillsBest_59 (by decide) rfl ?_
      refine rw_iconst 60 (v := 0) dX11_fillsBest_60 (by decide) ?_
      refine rw_istore 61 [(0, .ref 243), (1, .int v1), (2, .int v2), (3, .int 0), (4, .int 0)] dX11_fillsBest_61 (by decide) rfl ?_
      refine wX11_fillsBest_63 v1 v2 μ _ (fun y7 h => ?_) FU 0 0 h
      refine rw_aload_n 107 dX11_fillsBest_107 0 rfl ?_
      refine rw_getR 108 11 59 kc11 dX11_fillsBest_108 ly_243 rln_243 fX11_134 rfl rf_243_59 ?_
      refine rw_sipush 111 (v := 128) dX11_fillsBest_111 (by decide) ?_
      refine rw_iload_n 114 dX11_fillsBest_114 1 rfl ?_
      refine rw_imul 115 dX11_fillsBest_115 ?_
      refine rw_sipush 116 (v := 128) dX11_fillsBest_116 (by decide) ?_
      refine rw_iadd 119 dX11_fillsBest_119 ?_
      refine rw_iload_n 120 dX11_fillsBest_120 2 rfl ?_
      refine rw_iadd 121 dX11_fillsBest_121 ?_
      refine rw_iload_n 122 dX11_fillsBest_122 3 rfl ?_
      refine rn_iast 123 dX11_fillsBest_123 ly_282 rln_282 h (fun μ8 h => ?_)
      refine rw_iinc 124 [(0, .ref 243), (1, .int v1), (2, .int (v2 + 1)), (3, .int y7)] dX11_fillsBest_124 2 rfl rfl (by decide) rfl ?_
      refine rw_goto 127 43 dX11_fillsBest_127 (by decide) ?_
      refine rw_pick 43 [0, 1, 2] rfl ?_
      exact ih (v2 + 1) μ8 h
set_option maxRecDepth 100000 in
theorem wX11_fillsBest_28     (K : Mem → Option (Mem)) {res : Mem} (hK : ∀  (μ : Mem), K μ = some res → RW mX11_fillsBest 6 NF NF 136 [] [] (μ, Rf0, NF) (QN none res Rf0 NF)) : ∀ (n9 : Nat) (v1 : Int32) (μ : Mem), fX11_fillsBest_28 K n9 v1 μ = some res → RW mX11_fillsBest 6 NF NF 28 [(0, .ref 243), (1, .int v1)] [] (μ, Rf0, NF) (QN none res Rf0 NF) := by
  intro n9
  induction n9 with
  | zero => intro _ _ h; cases h
  | succ n ih =>
    intro v1 μ h
    unfold fX11_fillsBest_28 at h
    refine rw_iload_n 28 dX11_fillsBest_28 1 rfl ?_
    refine rw_aload_n 29 dX11_fillsBest_29 0 rfl ?_
    refine rw_getR 30 11 23 kc11 dX11_fillsBest_30 ly_243 rln_243 fX11_46 rfl rf_243_23 ?_
    refine rw_aload_n 33 dX11_fillsBest_33 0 rfl ?_
    refine rw_getI 34 11 18 kc11 dX11_fillsBest_34 ly_243 rln_243 fX11_236 rfl ?_
    refine rn_iald 37 dX11_fillsBest_37 ly_253 rln_253 h (fun h => ?_)
    refine rn_icmp_ge 38 136 dX11_fillsBest_38 (by decide) h (fun _ h => ?_) (fun _ h => ?_)
    · refine rw_pick 136 [] rfl ?_
      exact hK μ h
    · refine rw_iconst 41 (v := 0) dX11_fillsBest_41 (by decide) ?_
      refine rw_istore_n 42 [(0, .ref 243), (1, .int v1), (2, .int 0)] dX11_fillsBest_42 (by decide) rfl ?_
      refine wX11_fillsBest_43 v1 _ (fun μ9 h => ?_) FU 0 μ h
      refine rw_iinc 130 [(0, .ref 243), (1, .int (v1 + 1))] dX11_fillsBest_130 1 rfl rfl (by decide) rfl ?_
      refine rw_goto 133 28 dX11_fillsBest_133 (by decide) ?_
      exact ih (v1 + 1) μ9 h
set_option maxRecDepth 100000 in
theorem wX11_fillsBest  (μ : Mem) {res : Mem} (h : fX11_fillsBest  μ = some res) : Ct mX11_fillsBest 6 NF NF [.ref 243] (μ, Rf0, NF) (QN none res Rf0 NF) := by
  unfold fX11_fillsBest at h
  show RW mX11_fillsBest 6 NF NF 0 [(0, .ref 243)] [] (μ, Rf0, NF) (QN none res Rf0 NF)
  refine rw_aload_n 0 dX11_fillsBest_0 0 rfl ?_
  refine rn_cVmv 1 11 [] dX11_fillsBest_1 caX11_fillsValues lX11_440 inX11_fillsValues slX11_fillsValues rfl ly_243 ⟨_, rfl, rfl⟩ rln_243 naX11_fillsValues (Nat.le_of_ble_eq_true rfl) (Nat.le_of_ble_eq_true rfl) (by decide) (fun _ hq => wX11_fillsValues μ hq) h (fun q1 h => ?_)
  refine rw_iconst 4 (v := 0) dX11_fillsBest_4 (by decide) ?_
  refine rw_istore_n 5 [(0, .ref 243), (1, .int 0)] dX11_fillsBest_5 (by decide) rfl ?_
  refine wX11_fillsBest_6 _ (fun μ3 h => ?_) FU 0 q1 h
  refine rw_iconst 26 (v := 0) dX11_fillsBest_26 (by decide) ?_
  refine rw_istore_n 27 [(0, .ref 243), (1, .int 0)] dX11_fillsBest_27 (by decide) rfl ?_
  refine wX11_fillsBest_28 _ (fun μ10 h => ?_) FU 0 μ3 h
  exact rn_vret 136 dX11_fillsBest_136 rfl h
def fX11_leastFor_2   (v1 : Int32) (v2 : Int32) (μ : Mem) (K : Int32 → Option (Int32)) : Nat → Int32 → Option (Int32)
  | 0, _ => none
  | n + 1, v3 =>
    (fX11_canBe v1 v3 v2 μ).bind fun q1 =>
    if q1 = true then
      (fX11_bestWith v1 v3 v2 μ).bind fun q2 =>
      if inb (((128 * v1) + 128) + v2) 640 then
      if q2 = (μ.1 282 (((128 * v1) + 128) + v2).toNatClampNeg) then
        K v3
      else
        fX11_leastFor_2 v1 v2 μ K n (v3 + 1)
      else none
    else
      fX11_leastFor_2 v1 v2 μ K n (v3 + 1)
def fX11_leastFor (a1 : Int32) (a2 : Int32) (μ : Mem) : Option (Int32) :=
  fX11_leastFor_2 a1 a2 μ (fun y3 =>
      some y3
  ) FU 0
set_option maxRecDepth 100000 in
theorem wX11_leastFor_2   (v1 : Int32) (v2 : Int32) (μ : Mem) (K : Int32 → Option (Int32)) {res : Int32} (hK : ∀ (v3 : Int32), K v3 = some res → RW mX11_leastFor 3 NF NF 44 [(3, .int v3)] [] (μ, Rf0, NF) (QN (some (.int res)) μ Rf0 NF)) : ∀ (n9 : Nat) (v3 : Int32), fX11_leastFor_2 v1 v2 μ K n9 v3 = some res → RW mX11_leastFor 3 NF NF 2 [(0, .ref 243), (1, .int v1), (2, .int v2), (3, .int v3)] [] (μ, Rf0, NF) (QN (some (.int res)) μ Rf0 NF) := by
  intro n9
  induction n9 with
  | zero => intro _ h; cases h
  | succ n ih =>
    intro v3 h
    unfold fX11_leastFor_2 at h
    refine rw_aload_n 2 dX11_leastFor_2 0 rfl ?_
    refine rw_iload_n 3 dX11_leastFor_3 1 rfl ?_
    refine rw_iload_n 4 dX11_leastFor_4 3 rfl ?_
    refine rw_iload_n 5 dX11_leastFor_5 2 rfl ?_
    refine rn_cVpb 6 11 [.int v1, .int v3, .int v2] dX11_leastFor_6 caX11_canBe lX11_446 inX11_canBe slX11_canBe rfl ly_243 ⟨_, rfl, rfl⟩ rln_243 naX11_canBe (Nat.le_of_ble_eq_true rfl) (Nat.le_of_ble_eq_true rfl) (by decide) (fun _ hq => wX11_canBe v1 v3 v2 μ hq) h (fun q1 h => ?_)
    refine rn_ifb_eq 9 38 dX11_leastFor_9 (by decide) h (fun _ h => ?_) (fun _ h => ?_)
    · refine rw_iinc 38 [(0, .ref 243), (1, .int v1), (2, .int v2), (3, .int (v3 + 1))] dX11_leastFor_38 3 rfl rfl (by decide) rfl ?_
      refine rw_goto 41 2 dX11_leastFor_41 (by decide) ?_
      exact ih (v3 + 1) h
    · refine rw_aload_n 12 dX11_leastFor_12 0 rfl ?_
      refine rw_iload_n 13 dX11_leastFor_13 1 rfl ?_
      refine rw_iload_n 14 dX11_leastFor_14 3 rfl ?_
      refine rw_iload_n 15 dX11_leastFor_15 2 rfl ?_
      refine rn_cVpi 16 11 [.int v1, .int v3, .int v2] dX11_leastFor_16 caX11_bestWith lX11_449 inX11_bestWith slX11_bestWith rfl ly_243 ⟨_, rfl, rfl⟩ rln_243 naX11_bestWith (Nat.le_of_ble_eq_true rfl) (Nat.le_of_ble_eq_true rfl) (by decide) (fun _ hq => wX11_bestWith v1 v3 v2 μ hq) h (fun q2 h => ?_)
      refine rw_aload_n 19 dX11_leastFor_19 0 rfl ?_
      refine rw_getR 20 11 59 kc11 dX11_leastFor_20 ly_243 rln_243 fX11_134 rfl rf_243_59 ?_
      refine rw_sipush 23 (v := 128) dX11_leastFor_23 (by decide) ?_
      refine rw_iload_n 26 dX11_leastFor_26 1 rfl ?_
      refine rw_imul 27 dX11_leastFor_27 ?_
      refine rw_sipush 28 (v := 128) dX11_leastFor_28 (by decide) ?_
      refine rw_iadd 31 dX11_leastFor_31 ?_
      refine rw_iload_n 32 dX11_leastFor_32 2 rfl ?_
      refine rw_iadd 33 dX11_leastFor_33 ?_
      refine rn_iald 34 dX11_leastFor_34 ly_282 rln_282 h (fun h => ?_)
      refine rn_icmp_eq 35 44 dX11_leastFor_35 (by decide) h (fun _ h => ?_) (fun _ h => ?_)
      · refine rw_pick 44 [3] rfl ?_
        exact hK v3 h
      · refine rw_iinc 38 [(0, .ref 243), (1, .int v1), (2, .int v2), (3, .int (v3 + 1))] dX11_leastFor_38 3 rfl rfl (by decide) rfl ?_
        refine rw_goto 41 2 dX11_leastFor_41 (by decide) ?_
        exact ih (v3 + 1) h
set_option maxRecDepth 100000 in
theorem wX11_leastFor (a1 : Int32) (a2 : Int32) (μ : Mem) {res : Int32} (h : fX11_leastFor a1 a2 μ = some res) : Ct mX11_leastFor 3 NF NF [.ref 243, .int a1, .int a2] (μ, Rf0, NF) (QN (some (.int res)) μ Rf0 NF) := by
  unfold fX11_leastFor at h
  show RW mX11_leastFor 3 NF NF 0 [(0, .ref 243), (1, .int a1), (2, .int a2)] [] (μ, Rf0, NF) (QN (some (.int res)) μ Rf0 NF)
  refine rw_iconst 0 (v := 0) dX11_leastFor_0 (by decide) ?_
  refine rw_istore_n 1 [(0, .ref 243), (1, .int a1), (2, .int a2), (3, .int 0)] dX11_leastFor_1 (by decide) rfl ?_
  refine wX11_leastFor_2 a1 a2 μ _ (fun y3 h => ?_) FU 0 h
  refine rw_iload_n 44 dX11_leastFor_44 0 rfl ?_
  exact rn_iret 45 dX11_leastFor_45 rfl h
def fX11_letting_62   (v1 : Int32) (μ : Mem) (K : Int32 → Option (Int32 × Mem)) : Nat → Int32 → Int32 → Option (Int32 × Mem)
  | 0, _, _ => none
  | n + 1, v2, v3 =>
    if v1 < v3 then
      (fX11_leastFor v3 v2 μ).bind fun q4 =>
      nm (v2 &&& (q4 ^^^ (-1))) fun x5 =>
      fX11_letting_62 v1 μ K n x5 (v3 + (-1))
    else
      K v2
def fX11_letting_j15    (v1 : Int32) (μ : Mem) : Option (Int32 × Mem) :=
  (fX11_fillsBest μ).bind fun q1 =>
  (fX11_livingBits q1).bind fun q2 =>
  if v1 = (-1) then
    if inb (q1.1 243 18) 2 then
    if inb ((128 * (q1.1 253 (q1.1 243 18).toNatClampNeg)) + q2) 640 then
    some ((q1.1 282 ((128 * (q1.1 253 (q1.1 243 18).toNatClampNeg)) + q2).toNatClampNeg), q1)
    else none
    else none
  else
    if inb (q1.1 243 18) 2 then
    nm ((q1.1 253 (q1.1 243 18).toNatClampNeg) - 1) fun x3 =>
    fX11_letting_62 v1 q1 (fun y6 =>
        (fX11_leastFor v1 y6 q1).bind fun q7 =>
        some (q7, q1)
    ) FU q2 x3
    else none
def fX11_letting (a1 : Int32) (μ : Mem) : Option (Int32 × Mem) :=
  if a1 = (-1) then
    fX11_letting_j15 a1 μ
  else
    (fX11_isSunday a1 μ).bind fun q8 =>
    if q8 = true then
      fX11_letting_j15 a1 μ
    else
      some ((-1), μ)
set_option maxRecDepth 100000 in
theorem wX11_letting_62   (v1 : Int32) (μ : Mem) (K : Int32 → Option (Int32 × Mem)) {res : Int32 × Mem} (hK : ∀ (v2 : Int32), K v2 = some res → RW mX11_letting 7 NF NF 84 [(0, .ref 243), (1, .int v1), (2, .int v2)] [] (μ, Rf0, NF) (QN (some (.int res.1)) res.2 Rf0 NF)) : ∀ (n9 : Nat) (v2 : Int32) (v3 : Int32), fX11_letting_62 v1 μ K n9 v2 v3 = some res → RW mX11_letting 7 NF NF 62 [(0, .ref 243), (1, .int v1), (2, .int v2), (3, .int v3)] [] (μ, Rf0, NF) (QN (some (.int res.1)) res.2 Rf0 NF) := by
  intro n9
  induction n9 with
  | zero => intro _ _ h; cases h
  | succ n ih =>
    intro v2 v3 h
    unfold fX11_letting_62 at h
    refine rw_iload_n 62 dX11_letting_62 3 rfl ?_
    refine rw_iload_n 63 dX11_letting_63 1 rfl ?_
    refine rn_icmp_le 64 84 dX11_letting_64 (by decide) h (fun _ h => ?_) (fun _ h => ?_)
    · refine rw_pick 84 [0, 1, 2] rfl ?_
      exact hK v2 h
    · refine rw_iload_n 67 dX11_letting_67 2 rfl ?_
      refine rw_aload_n 68 dX11_letting_68 0 rfl ?_
      refine rw_iload_n 69 dX11_letting_69 3 rfl ?_
      refine rw_iload_n 70 dX11_letting_70 2 rfl ?_
      refine rn_cVpi 71 11 [.int v3, .int v2] dX11_letting_71 caX11_leastFor lX11_458 inX11_leastFor slX11_leastFor rfl ly_243 ⟨_, rfl, rfl⟩ rln_243 naX11_leastFor (Nat.le_of_ble_eq_true rfl) (Nat.le_of_ble_eq_true rfl) (by decide) (fun _ hq => wX11_leastFor v3 v2 μ hq) h (fun q4 h => ?_)
      refine rw_iconst 74 (v := -1) dX11_letting_74 (by decide) ?_
      refine rw_ixor 75 dX11_letting_75 ?_
      refine rw_iand 76 dX11_letting_76 ?_
      refine rn_ist_n 77 (fun x5 => [(0, .ref 243), (1, .int v1), (2, .int x5), (3, .int v3)]) dX11_letting_77 (by decide) (fun _ => rfl) h (fun x5 h => ?_)
      refine rw_iinc 78 [(0, .ref 243), (1, .int v1), (2, .int x5), (3, .int (v3 + (-1)))] dX11_letting_78 3 rfl rfl (by decide) rfl ?_
      refine rw_goto 81 62 dX11_letting_81 (by decide) ?_
      exact ih x5 (v3 + (-1)) h
set_option maxRecDepth 100000 in
theorem wX11_letting_j15   {res : Int32 × Mem} (v1 : Int32) (μ : Mem)  (h : fX11_letting_j15 v1 μ = some res) : RW mX11_letting 7 NF NF 15 [(0, .ref 243), (1, .int v1)] [] (μ, Rf0, NF) (QN (some (.int res.1)) res.2 Rf0 NF) := by
  unfold fX11_letting_j15 at h
  refine rw_aload_n 15 dX11_letting_15 0 rfl ?_
  refine rn_cVmv 16 11 [] dX11_letting_16 caX11_fillsBest lX11_452 inX11_fillsBest slX11_fillsBest rfl ly_243 ⟨_, rfl, rfl⟩ rln_243 naX11_fillsBest (Nat.le_of_ble_eq_true rfl) (Nat.le_of_ble_eq_true rfl) (by decide) (fun _ hq => wX11_fillsBest μ hq) h (fun q1 h => ?_)
  refine rw_aload_n 19 dX11_letting_19 0 rfl ?_
  refine rn_cVpi 20 11 [] dX11_letting_20 caX11_livingBits lX11_455 inX11_livingBits slX11_livingBits rfl ly_243 ⟨_, rfl, rfl⟩ rln_243 naX11_livingBits (Nat.le_of_ble_eq_true rfl) (Nat.le_of_ble_eq_true rfl) (by decide) (fun _ hq => wX11_livingBits q1 hq) h (fun q2 h => ?_)
  refine rw_istore_n 23 [(0, .ref 243), (1, .int v1), (2, .int q2)] dX11_letting_23 (by decide) rfl ?_
  refine rw_iload_n 24 dX11_letting_24 1 rfl ?_
  refine rw_iconst 25 (v := -1) dX11_letting_25 (by decide) ?_
  refine rn_icmp_ne 26 50 dX11_letting_26 (by decide) h (fun _ h => ?_) (fun _ h => ?_)
  · refine rw_aload_n 50 dX11_letting_50 0 rfl ?_
    refine rw_getR 51 11 23 kc11 dX11_letting_51 ly_243 rln_243 fX11_46 rfl rf_243_23 ?_
    refine rw_aload_n 54 dX11_letting_54 0 rfl ?_
    refine rw_getI 55 11 18 kc11 dX11_letting_55 ly_243 rln_243 fX11_236 rfl ?_
    refine rn_iald 58 dX11_letting_58 ly_253 rln_253 h (fun h => ?_)
    refine rw_iconst 59 (v := 1) dX11_letting_59 (by decide) ?_
    refine rw_isub 60 dX11_letting_60 ?_
    refine rn_ist_n 61 (fun x3 => [(0, .ref 243), (1, .int v1), (2, .int q2), (3, .int x3)]) dX11_letting_61 (by decide) (fun _ => rfl) h (fun x3 h => ?_)
    refine wX11_letting_62 v1 q1 _ (fun y6 h => ?_) FU q2 x3 h
    refine rw_aload_n 84 dX11_letting_84 0 rfl ?_
    refine rw_iload_n 85 dX11_letting_85 1 rfl ?_
    refine rw_iload_n 86 dX11_letting_86 2 rfl ?_
    refine rn_cVpi 87 11 [.int v1, .int y6] dX11_letting_87 caX11_leastFor lX11_458 inX11_leastFor slX11_leastFor rfl ly_243 ⟨_, rfl, rfl⟩ rln_243 naX11_leastFor (Nat.le_of_ble_eq_true rfl) (Nat.le_of_ble_eq_true rfl) (by decide) (fun _ hq => wX11_leastFor v1 y6 q1 hq) h (fun q7 h => ?_)
    exact rn_iret2 90 dX11_letting_90 rfl h
  · refine rw_aload_n 29 dX11_letting_29 0 rfl ?_
    refine rw_getR 30 11 59 kc11 dX11_letting_30 ly_243 rln_243 fX11_134 rfl rf_243_59 ?_
    refine rw_sipush 33 (v := 128) dX11_letting_33 (by decide) ?_
    refine rw_aload_n 36 dX11_letting_36 0 rfl ?_
    refine rw_getR 37 11 23 kc11 dX11_letting_37 ly_243 rln_243 fX11_46 rfl rf_243_23 ?_
    refine rw_aload_n 40 dX11_letting_40 0 rfl ?_
    refine rw_getI 41 11 18 kc11 dX11_letting_41 ly_243 rln_243 fX11_236 rfl ?_
    refine rn_iald 44 dX11_letting_44 ly_253 rln_253 h (fun h => ?_)
    refine rw_imul 45 dX11_letting_45 ?_
    refine rw_iload_n 46 dX11_letting_46 2 rfl ?_
    refine rw_iadd 47 dX11_letting_47 ?_
    refine rn_iald 48 dX11_letting_48 ly_282 rln_282 h (fun h => ?_)
    exact rn_iret2 49 dX11_letting_49 rfl h
set_option maxRecDepth 100000 in
theorem wX11_letting (a1 : Int32) (μ : Mem) {res : Int32 × Mem} (h : fX11_letting a1 μ = some res) : Ct mX11_letting 7 NF NF [.ref 243, .int a1] (μ, Rf0, NF) (QN (some (.int res.1)) res.2 Rf0 NF) := by
  unfold fX11_letting at h
  show RW mX11_letting 7 NF NF 0 [(0, .ref 243), (1, .int a1)] [] (μ, Rf0, NF) (QN (some (.int res.1)) res.2 Rf0 NF)
  refine rw_iload_n 0 dX11_letting_0 1 rfl ?_
  refine rw_iconst 1 (v := -1) dX11_letting_1 (by decide) ?_
  refine rn_icmp_eq 2 15 dX11_letting_2 (by decide) h (fun _ h => ?_) (fun _ h => ?_)
  · exact wX11_letting_j15 a1 μ h
  · refine rw_aload_n 5 dX11_letting_5 0 rfl ?_
    refine rw_iload_n 6 dX11_letting_6 1 rfl ?_
    refine rn_cVpb 7 11 [.int a1] dX11_letting_7 caX11_isSunday lX11_404 inX11_isSunday slX11_isSunday rfl ly_243 ⟨_, rfl, rfl⟩ rln_243 naX11_isSunday (Nat.le_of_ble_eq_true rfl) (Nat.le_of_ble_eq_true rfl) (by decide) (fun _ hq => wX11_isSunday a1 μ hq) h (fun q8 h => ?_)
    refine rn_ifb_ne 10 15 dX11_letting_10 (by decide) h (fun _ h => ?_) (fun _ h => ?_)
    · exact wX11_letting_j15 a1 μ h
    · refine rw_iconst 13 (v := -1) dX11_letting_13 (by decide) ?_
      exact rn_iret2 14 dX11_letting_14 rfl h
def fX11_areAllIn_22   (v1 : Int32) (v2 : Int32) (v3 : Int32) (μ : Mem) (K : Unit → Option (Bool)) : Nat → Int32 → Option (Bool)
  | 0, _ => none
  | n + 1, v4 =>
    if v2 < v4 then
      K ()
    else
      (fX11_canBe v3 v4 v2 μ).bind fun q2 =>
      if q2 = true then
        if inb ((128 * (v1 &&& (((1 : Int32) <<< (v3 &&& 31)) ^^^ (-1)))) + (v2 &&& (v4 ^^^ (-1)))) 2048 then
        if (μ.1 283 ((128 * (v1 &&& (((1 : Int32) <<< (v3 &&& 31)) ^^^ (-1)))) + (v2 &&& (v4 ^^^ (-1)))).toNatClampNeg) = 0 then
          fX11_areAllIn_22 v1 v2 v3 μ K n (v4 + 1)
        else
          some true
        else none
      else
        fX11_areAllIn_22 v1 v2 v3 μ K n (v4 + 1)
def fX11_areAllIn (a1 : Int32) (a2 : Int32) (μ : Mem) : Option (Bool) :=
  if a1 = 0 then
    if a2 = 0 then
      some true
    else
      some false
  else
    (fX11_lowestOf a1 μ).bind fun q1 =>
    fX11_areAllIn_22 a1 a2 q1 μ (fun _ =>
        some false
    ) FU 0
set_option maxRecDepth 100000 in
theorem wX11_areAllIn_22   (v1 : Int32) (v2 : Int32) (v3 : Int32) (μ : Mem) (K : Unit → Option (Bool)) {res : Bool} (hK : ∀ (_ : Unit), K () = some res → RW mX11_areAllIn 3 NF NF 73 [] [] (μ, Rf0, NF) (QN (some (.int (b2i res))) μ Rf0 NF)) : ∀ (n9 : Nat) (v4 : Int32), fX11_areAllIn_22 v1 v2 v3 μ K n9 v4 = some res → RW mX11_areAllIn 3 NF NF 22 [(0, .ref 243), (1, .int v1), (2, .int v2), (3, .int v3), (4, .int v4)] [] (μ, Rf0, NF) (QN (some (.int (b2i res))) μ Rf0 NF) := by
  intro n9
  induction n9 with
  | zero => intro _ h; cases h
  | succ n ih =>
    intro v4 h
    unfold fX11_areAllIn_22 at h
    refine rw_iload 22 dX11_areAllIn_22 4 rfl ?_
    refine rw_iload_n 24 dX11_areAllIn_24 2 rfl ?_
    refine rn_icmp_gt 25 73 dX11_areAllIn_25 (by decide) h (fun _ h => ?_) (fun _ h => ?_)
    · refine rw_pick 73 [] rfl ?_
      exact hK () h
    · refine rw_aload_n 28 dX11_areAllIn_28 0 rfl ?_
      refine rw_iload_n 29 dX11_areAllIn_29 3 rfl ?_
      refine rw_iload 30 dX11_areAllIn_30 4 rfl ?_
      refine rw_iload_n 32 dX11_areAllIn_32 2 rfl ?_
      refine rn_cVpb 33 11 [.int v3, .int v4, .int v2] dX11_areAllIn_33 caX11_canBe lX11_446 inX11_canBe slX11_canBe rfl ly_243 ⟨_, rfl, rfl⟩ rln_243 naX11_canBe (Nat.le_of_ble_eq_true rfl) (Nat.le_of_ble_eq_true rfl) (by decide) (fun _ hq => wX11_canBe v3 v4 v2 μ hq) h (fun q2 h => ?_)
      refine rn_ifb_eq 36 67 dX11_areAllIn_36 (by decide) h (fun _ h => ?_) (fun _ h => ?_)
      · refine rw_iinc 67 [(0, .ref 243), (1, .int v1), (2, .int v2), (3, .int v3), (4, .int (v4 + 1))] dX11_areAllIn_67 4 rfl rfl (by decide) rfl ?_
        refine rw_goto 70 22 dX11_areAllIn_70 (by decide) ?_
        exact ih (v4 + 1) h
      · refine rw_aload_n 39 dX11_areAllIn_39 0 rfl ?_
        refine rw_getR 40 11 60 kc11 dX11_areAllIn_40 ly_243 rln_243 fX11_137 rfl rf_243_60 ?_
        refine rw_sipush 43 (v := 128) dX11_areAllIn_43 (by decide) ?_
        refine rw_iload_n 46 dX11_areAllIn_46 1 rfl ?_
        refine rw_iconst 47 (v := 1) dX11_areAllIn_47 (by decide) ?_
        refine rw_iload_n 48 dX11_areAllIn_48 3 rfl ?_
        refine rw_ishl 49 dX11_areAllIn_49 ?_
        refine rw_iconst 50 (v := -1) dX11_areAllIn_50 (by decide) ?_
        refine rw_ixor 51 dX11_areAllIn_51 ?_
        refine rw_iand 52 dX11_areAllIn_52 ?_
        refine rw_imul 53 dX11_areAllIn_53 ?_
        refine rw_iload_n 54 dX11_areAllIn_54 2 rfl ?_
        refine rw_iload 55 dX11_areAllIn_55 4 rfl ?_
        refine rw_iconst 57 (v := -1) dX11_areAllIn_57 (by decide) ?_
        refine rw_ixor 58 dX11_areAllIn_58 ?_
        refine rw_iand 59 dX11_areAllIn_59 ?_
        refine rw_iadd 60 dX11_areAllIn_60 ?_
        refine rn_zald 61 dX11_areAllIn_61 ly_283 rln_283 h (fun h => ?_)
        refine rn_if_eq 62 67 dX11_areAllIn_62 (by decide) h (fun _ h => ?_) (fun _ h => ?_)
        · refine rw_iinc 67 [(0, .ref 243), (1, .int v1), (2, .int v2), (3, .int v3), (4, .int (v4 + 1))] dX11_areAllIn_67 4 rfl rfl (by decide) rfl ?_
          refine rw_goto 70 22 dX11_areAllIn_70 (by decide) ?_
          exact ih (v4 + 1) h
        · refine rw_iconst 65 (v := 1) dX11_areAllIn_65 (by decide) ?_
          exact rn_zret 66 (v := true) dX11_areAllIn_66 rfl h
set_option maxRecDepth 100000 in
theorem wX11_areAllIn (a1 : Int32) (a2 : Int32) (μ : Mem) {res : Bool} (h : fX11_areAllIn a1 a2 μ = some res) : Ct mX11_areAllIn 3 NF NF [.ref 243, .int a1, .int a2] (μ, Rf0, NF) (QN (some (.int (b2i res))) μ Rf0 NF) := by
  unfold fX11_areAllIn at h
  show RW mX11_areAllIn 3 NF NF 0 [(0, .ref 243), (1, .int a1), (2, .int a2)] [] (μ, Rf0, NF) (QN (some (.int (b2i res))) μ Rf0 NF)
  refine rw_iload_n 0 dX11_areAllIn_0 1 rfl ?_
  refine rn_if_ne 1 14 dX11_areAllIn_1 (by decide) h (fun _ h => ?_) (fun _ h => ?_)
  · refine rw_iload_n 14 dX11_areAllIn_14 1 rfl ?_
    refine rn_cSpi 15 [.int a1] dX11_areAllIn_15 caX11_lowestOf lX11_434 stX11_lowestOf rfl naX11_lowestOf (Nat.le_of_ble_eq_true rfl) (Nat.le_of_ble_eq_true rfl) (by decide) (fun _ hq => wX11_lowestOf a1 μ hq) h (fun q1 h => ?_)
    refine rw_istore_n 18 [(0, .ref 243), (1, .int a1), (2, .int a2), (3, .int q1)] dX11_areAllIn_18 (by decide) rfl ?_
    refine rw_iconst 19 (v := 0) dX11_areAllIn_19 (by decide) ?_
    refine rw_istore 20 [(0, .ref 243), (1, .int a1), (2, .int a2), (3, .int q1), (4, .int 0)] dX11_areAllIn_20 (by decide) rfl ?_
    refine wX11_areAllIn_22 a1 a2 q1 μ _ (fun _ h => ?_) FU 0 h
    refine rw_iconst 73 (v := 0) dX11_areAllIn_73 (by decide) ?_
    exact rn_zret 74 (v := false) dX11_areAllIn_74 rfl h
  · refine rw_iload_n 4 dX11_areAllIn_4 2 rfl ?_
    refine rn_if_ne 5 12 dX11_areAllIn_5 (by decide) h (fun _ h => ?_) (fun _ h => ?_)
    · refine rw_iconst 12 (v := 0) dX11_areAllIn_12 (by decide) ?_
      exact rn_zret 13 (v := false) dX11_areAllIn_13 rfl h
    · refine rw_iconst 8 (v := 1) dX11_areAllIn_8 (by decide) ?_
      refine rw_goto 9 13 dX11_areAllIn_9 (by decide) ?_
      exact rn_zret 13 (v := true) dX11_areAllIn_13 rfl h
def fX11_fewest_45   (v1 : Int32) (v2 : Int32) (v3 : Int32) (v4 : Int32)  (K : Mem → Option (Int32 × Mem)) : Nat → Int32 → Mem → Option (Int32 × Mem)
  | 0, _, _ => none
  | n + 1, v5, μ =>
    if inb (μ.1 243 18) 2 then
    if v5 < ((1 : Int32) <<< ((μ.1 256 (μ.1 243 18).toNatClampNeg) &&& 31)) then
      (fX11_areAllIn v4 v5 μ).bind fun q4 =>
      if inb ((128 * v4) + v5) 2048 then nm (wI μ 283 ((128 * v4) + v5).toNatClampNeg ((b2i q4) &&& 1)) fun μ5 =>
      fX11_fewest_45 v1 v2 v3 v4 K n (v5 + 1) μ5
      else none
    else
      K μ
    else none
def fX11_fewest_26   (v1 : Int32) (v2 : Int32)  (K : Int32 → Mem → Option (Int32 × Mem)) : Nat → Int32 → Int32 → Mem → Option (Int32 × Mem)
  | 0, _, _, _ => none
  | n + 1, v3, v4, μ =>
    if inb (μ.1 243 18) 2 then
    if v4 < ((1 : Int32) <<< ((μ.1 253 (μ.1 243 18).toNatClampNeg) &&& 31)) then
      fX11_fewest_45 v1 v2 v3 v4 (fun μ6 =>
          if inb ((128 * v4) + v2) 2048 then
          if (μ6.1 283 ((128 * v4) + v2).toNatClampNeg) = 0 then
            fX11_fewest_26 v1 v2 K n v3 (v4 + 1) μ6
          else
            if v3 < 0 then
              fX11_fewest_26 v1 v2 K n v4 (v4 + 1) μ6
            else
              (fX11_bits v4 μ6).bind fun q7 =>
              (fX11_bits v3 μ6).bind fun q8 =>
              if q7 < q8 then
                fX11_fewest_26 v1 v2 K n v4 (v4 + 1) μ6
              else
                fX11_fewest_26 v1 v2 K n v3 (v4 + 1) μ6
          else none
      ) FU 0 μ
    else
      K v3 μ
    else none
def fX11_fewest (a1 : Int32) (μ : Mem) : Option (Int32 × Mem) :=
  (fX11_in a1 0 1 μ).bind fun q1 =>
  if q1 = true then
    (fX11_fillsValues μ).bind fun q2 =>
    (fX11_livingBits q2).bind fun q3 =>
    fX11_fewest_26 a1 q3 (fun y9 μ10 =>
        if y9 < 0 then
          some (y9, μ10)
        else
          if a1 = 1 then
            some (y9, μ10)
          else
            (fX11_bits y9 μ10).bind fun q11 =>
            some (q11, μ10)
    ) FU (-2) 0 q2
  else
    some ((-1), μ)
set_option maxRecDepth 100000 in
theorem wX11_fewest_45   (v1 : Int32) (v2 : Int32) (v3 : Int32) (v4 : Int32)  (K : Mem → Option (Int32 × Mem)) {res : Int32 × Mem} (hK : ∀  (μ : Mem), K μ = some res → RW mX11_fewest 6 NF NF 89 [(0, .ref 243), (1, .int v1), (2, .int v2), (3, .int v3), (4, .int v4)] [] (μ, Rf0, NF) (QN (some (.int res.1)) res.2 Rf0 NF)) : ∀ (n9 : Nat) (v5 : Int32) (μ : Mem), fX11_fewest_45 v1 v2 v3 v4 K n9 v5 μ = some res → RW mX11_fewest 6 NF NF 45 [(0, .ref 243), (1, .int v1), (2, .int v2), (3, .int v3), (4, .int v4), (5, .int v5)] [] (μ, Rf0, NF) (QN (some (.int res.1)) res.2 Rf0 NF) := by
  intro n9
  induction n9 with
  | zero => intro _ _ h; cases h
  | succ n ih =>
    intro v5 μ h
    unfold fX11_fewest_45 at h
    refine rw_iload 45 dX11_fewest_45 5 rfl ?_
    refine rw_iconst 47 (v := 1) dX11_fewest_47 (by decide) ?_
    refine rw_aload_n 48 dX11_fewest_48 0 rfl ?_
    refine rw_getR 49 11 26 kc11 dX11_fewest_49 ly_243 rln_243 fX11_55 rfl rf_243_26 ?_
    refine rw_aload_n 52 dX11_fewest_52 0 rfl ?_
    refine rw_getI 53 11 18 kc11 dX11_fewest_53 ly_243 rln_243 fX11_236 rfl ?_
    refine rn_iald 56 dX11_fewest_56 ly_256 rln_256 h (fun h => ?_)
    refine rw_ishl 57 dX11_fewest_57 ?_
    refine rn_icmp_ge 58 89 dX11_fewest_58 (by decide) h (fun _ h => ?_) (fun _ h => ?_)
    · refine rw_pick 89 [0, 1, 2, 3, 4] rfl ?_
      exact hK μ h
    · refine rw_aload_n 61 dX11_fewest_61 0 rfl ?_
      refine rw_getR 62 11 60 kc11 dX11_fewest_62 ly_243 rln_243 fX11_137 rfl rf_243_60 ?_
      refine rw_sipush 65 (v := 128) dX11_fewest_65 (by decide) ?_
      refine rw_iload 68 dX11_fewest_68 4 rfl ?_
      refine rw_imul 70 dX11_fewest_70 ?_
      refine rw_iload 71 dX11_fewest_71 5 rfl ?_
      refine rw_iadd 73 dX11_fewest_73 ?_
      refine rw_aload_n 74 dX11_fewest_74 0 rfl ?_
      refine rw_iload 75 dX11_fewest_75 4 rfl ?_
      refine rw_iload 77 dX11_fewest_77 5 rfl ?_
      refine rn_cVpb 79 11 [.int v4, .int v5] dX11_fewest_79 caX11_areAllIn lX11_461 inX11_areAllIn slX11_areAllIn rfl ly_243 ⟨_, rfl, rfl⟩ rln_243 naX11_areAllIn (Nat.le_of_ble_eq_true rfl) (Nat.le_of_ble_eq_true rfl) (by decide) (fun _ hq => wX11_areAllIn v4 v5 μ hq) h (fun q4 h => ?_)
      refine rn_zast 82 dX11_fewest_82 ly_283 rln_283 h (fun μ5 h => ?_)
      refine rw_iinc 83 [(0, .ref 243), (1, .int v1), (2, .int v2), (3, .int v3), (4, .int v4), (5, .int (v5 + 1))] dX11_fewest_83 5 rfl rfl (by decide) rfl ?_
      refine rw_goto 86 45 dX11_fewest_86 (by decide) ?_
      exact ih (v5 + 1) μ5 h
set_option maxRecDepth 100000 in
theorem wX11_fewest_26   (v1 : Int32) (v2 : Int32)  (K : Int32 → Mem → Option (Int32 × Mem)) {res : Int32 × Mem} (hK : ∀ (v3 : Int32) (μ : Mem), K v3 μ = some res → RW mX11_fewest 6 NF NF 130 [(1, .int v1), (3, .int v3)] [] (μ, Rf0, NF) (QN (some (.int res.1)) res.2 Rf0 NF)) : ∀ (n9 : Nat) (v3 : Int32) (v4 : Int32) (μ : Mem), fX11_fewest_26 v1 v2 K n9 v3 v4 μ = some res → RW mX11_fewest 6 NF NF 26 [(0, .ref 243), (1, .int v1), (2, .int v2), (3, .int v3), (4, .int v4)] [] (μ, Rf0, NF) (QN (some (.int res.1)) res.2 Rf0 NF) := by
  intro n9
  induction n9 with
  | zero => intro _ _ _ h; cases h
  | succ n ih =>
    intro v3 v4 μ h
    unfold fX11_fewest_26 at h
    refine rw_iload 26 dX11_fewest_26 4 rfl ?_
    refine rw_iconst 28 (v := 1) dX11_fewest_28 (by decide) ?_
    refine rw_aload_n 29 dX11_fewest_29 0 rfl ?_
    refine rw_getR 30 11 23 kc11 dX11_fewest_30 ly_243 rln_243 fX11_46 rfl rf_243_23 ?_
    refine rw_aload_n 33 dX11_fewest_33 0 rfl ?_
    refine rw_getI 34 11 18 kc11 dX11_fewest_34 ly_243 rln_243 fX11_236 rfl ?_
    refine rn_iald 37 dX11_fewest_37 ly_253 rln_253 h (fun h => ?_)
    refine rw_ishl 38 dX11_fewest_38 ?_
    refine rn_icmp_ge 39 130 dX11_fewest_39 (by decide) h (fun _ h => ?_) (fun _ h => ?_)
    · refine rw_pick 130 [1, 3] rfl ?_
      exact hK v3 μ h
    · refine rw_iconst 42 (v := 0) dX11_fewest_42 (by decide) ?_
      refine rw_istore 43 [(0, .ref 243), (1, .int v1), (2, .int v2), (3, .int v3), (4, .int v4), (5, .int 0)] dX11_fewest_43 (by decide) rfl ?_
      refine wX11_fewest_45 v1 v2 v3 v4 _ (fun μ6 h => ?_) FU 0 μ h
      refine rw_aload_n 89 dX11_fewest_89 0 rfl ?_
      refine rw_getR 90 11 60 kc11 dX11_fewest_90 ly_243 rln_243 fX11_137 rfl rf_243_60 ?_
      refine rw_sipush 93 (v := 128) dX11_fewest_93 (by decide) ?_
      refine rw_iload 96 dX11_fewest_96 4 rfl ?_
      refine rw_imul 98 dX11_fewest_98 ?_
      refine rw_iload_n 99 dX11_fewest_99 2 rfl ?_
      refine rw_iadd 100 dX11_fewest_100 ?_
      refine rn_zald 101 dX11_fewest_101 ly_283 rln_283 h (fun h => ?_)
      refine rn_if_eq 102 124 dX11_fewest_102 (by decide) h (fun _ h => ?_) (fun _ h => ?_)
      · refine rw_iinc 124 [(0, .ref 243), (1, .int v1), (2, .int v2), (3, .int v3), (4, .int (v4 + 1))] dX11_fewest_124 4 rfl rfl (by decide) rfl ?_
        refine rw_goto 127 26 dX11_fewest_127 (by decide) ?_
        exact ih v3 (v4 + 1) μ6 h
      · refine rw_iload_n 105 dX11_fewest_105 3 rfl ?_
        refine rn_if_lt 106 121 dX11_fewest_106 (by decide) h (fun _ h => ?_) (fun _ h => ?_)
        · refine rw_iload 121 dX11_fewest_121 4 rfl ?_
          refine rw_istore_n 123 [(0, .ref 243), (1, .int v1), (2, .int v2), (3, .int v4), (4, .int v4)] dX11_fewest_123 (by decide) rfl ?_
          refine rw_iinc 124 [(0, .ref 243), (1, .int v1), (2, .int v2), (3, .int v4), (4, .int (v4 + 1))] dX11_fewest_124 4 rfl rfl (by decide) rfl ?_
          refine rw_goto 127 26 dX11_fewest_127 (by decide) ?_
          exact ih v4 (v4 + 1) μ6 h
        · refine rw_iload 109 dX11_fewest_109 4 rfl ?_
          refine rn_cSpi 111 [.int v4] dX11_fewest_111 caX11_bits lX11_365 stX11_bits rfl naX11_bits (Nat.le_of_ble_eq_true rfl) (Nat.le_of_ble_eq_true rfl) (by decide) (fun _ hq => wX11_bits v4 μ6 hq) h (fun q7 h => ?_)
          refine rw_iload_n 114 dX11_fewest_114 3 rfl ?_
          refine rn_cSpi 115 [.int v3] dX11_fewest_115 caX11_bits lX11_365 stX11_bits rfl naX11_bits (Nat.le_of_ble_eq_true rfl) (Nat.le_of_ble_eq_true rfl) (by decide) (fun _ hq => wX11_bits v3 μ6 hq) h (fun q8 h => ?_)
          refine rn_icmp_ge 118 124 dX11_fewest_118 (by decide) h (fun _ h => ?_) (fun _ h => ?_)
          · refine rw_iinc 124 [(0, .ref 243), (1, .int v1), (2, .int v2), (3, .int v3), (4, .int (v4 + 1))] dX11_fewest_124 4 rfl rfl (by decide) rfl ?_
            refine rw_goto 127 26 dX11_fewest_127 (by decide) ?_
            exact ih v3 (v4 + 1) μ6 h
          · refine rw_iload 121 dX11_fewest_121 4 rfl ?_
            refine rw_istore_n 123 [(0, .ref 243), (1, .int v1), (2, .int v2), (3, .int v4), (4, .int v4)] dX11_fewest_123 (by decide) rfl ?_
            refine rw_iinc 124 [(0, .ref 243), (1, .int v1), (2, .int v2), (3, .int v4), (4, .int (v4 + 1))] dX11_fewest_124 4 rfl rfl (by decide) rfl ?_
            refine rw_goto 127 26 dX11_fewest_127 (by decide) ?_
            exact ih v4 (v4 + 1) μ6 h
set_option maxRecDepth 100000 in
theorem wX11_fewest (a1 : Int32) (μ : Mem) {res : Int32 × Mem} (h : fX11_fewest a1 μ = some res) : Ct mX11_fewest 6 NF NF [.ref 243, .int a1] (μ, Rf0, NF) (QN (some (.int res.1)) res.2 Rf0 NF) := by
  unfold fX11_fewest at h
  show RW mX11_fewest 6 NF NF 0 [(0, .ref 243), (1, .int a1)] [] (μ, Rf0, NF) (QN (some (.int res.1)) res.2 Rf0 NF)
  refine rw_iload_n 0 dX11_fewest_0 1 rfl ?_
  refine rw_iconst 1 (v := 0) dX11_fewest_1 (by decide) ?_
  refine rw_iconst 2 (v := 1) dX11_fewest_2 (by decide) ?_
  refine rn_cSpb 3 [.int a1, .int 0, .int 1] dX11_fewest_3 caX11_in lX11_316 stX11_in rfl naX11_in (Nat.le_of_ble_eq_true rfl) (Nat.le_of_ble_eq_true rfl) (by decide) (fun _ hq => wX11_in a1 0 1 μ hq) h (fun q1 h => ?_)
  refine rn_ifb_ne 6 11 dX11_fewest_6 (by decide) h (fun _ h => ?_) (fun _ h => ?_)
  · refine rw_aload_n 11 dX11_fewest_11 0 rfl ?_
    refine rn_cVmv 12 11 [] dX11_fewest_12 caX11_fillsValues lX11_440 inX11_fillsValues slX11_fillsValues rfl ly_243 ⟨_, rfl, rfl⟩ rln_243 naX11_fillsValues (Nat.le_of_ble_eq_true rfl) (Nat.le_of_ble_eq_true rfl) (by decide) (fun _ hq => wX11_fillsValues μ hq) h (fun q2 h => ?_)
    refine rw_aload_n 15 dX11_fewest_15 0 rfl ?_
    refine rn_cVpi 16 11 [] dX11_fewest_16 caX11_livingBits lX11_455 inX11_livingBits slX11_livingBits rfl ly_243 ⟨_, rfl, rfl⟩ rln_243 naX11_livingBits (Nat.le_of_ble_eq_true rfl) (Nat.le_of_ble_eq_true rfl) (by decide) (fun _ hq => wX11_livingBits q2 hq) h (fun q3 h => ?_)
    refine rw_istore_n 19 [(0, .ref 243), (1, .int a1), (2, .int q3)] dX11_fewest_19 (by decide) rfl ?_
    refine rw_bipush 20 (v := -2) dX11_fewest_20 (by decide) ?_
    refine rw_istore_n 22 [(0, .ref 243), (1, .int a1), (2, .int q3), (3, .int (-2))] dX11_fewest_22 (by decide) rfl ?_
    refine rw_iconst 23 (v := 0) dX11_fewest_23 (by decide) ?_
    refine rw_istore 24 [(0, .ref 243), (1, .int a1), (2, .int q3), (3, .int (-2)), (4, .int 0)] dX11_fewest_24 (by decide) rfl ?_
    refine wX11_fewest_26 a1 q3 _ (fun y9 μ10 h => ?_) FU (-2) 0 q2 h
    refine rw_iload_n 130 dX11_fewest_130 1 rfl ?_
    refine rn_if_lt 131 139 dX11_fewest_131 (by decide) h (fun _ h => ?_) (fun _ h => ?_)
    · refine rw_iload_n 139 dX11_fewest_139 1 rfl ?_
      refine rw_goto 140 147 dX11_fewest_140 (by decide) ?_
      exact rn_iret2 147 dX11_fewest_147 rfl h
    · refine rw_iload_n 134 dX11_fewest_134 0 rfl ?_
      refine rw_iconst 135 (v := 1) dX11_fewest_135 (by decide) ?_
      refine rn_icmp_ne 136 143 dX11_fewest_136 (by decide) h (fun _ h => ?_) (fun _ h => ?_)
      · refine rw_iload_n 143 dX11_fewest_143 1 rfl ?_
        refine rn_cSpi 144 [.int y9] dX11_fewest_144 caX11_bits lX11_365 stX11_bits rfl naX11_bits (Nat.le_of_ble_eq_true rfl) (Nat.le_of_ble_eq_true rfl) (by decide) (fun _ hq => wX11_bits y9 μ10 hq) h (fun q11 h => ?_)
        exact rn_iret2 147 dX11_fewest_147 rfl h
      · refine rw_iload_n 139 dX11_fewest_139 1 rfl ?_
        refine rw_goto 140 147 dX11_fewest_140 (by decide) ?_
        exact rn_iret2 147 dX11_fewest_147 rfl h
  · refine rw_iconst 9 (v := -1) dX11_fewest_9 (by decide) ?_
    exact rn_iret2 10 dX11_fewest_10 rfl h
def fX11_isCalm_2   (v1 : Int32) (μ : Mem) (K : Unit → Option (Bool)) : Nat → Int32 → Option (Bool)
  | 0, _ => none
  | n + 1, v2 =>
    if inb (μ.1 243 18) 2 then
    if v2 < (μ.1 256 (μ.1 243 18).toNatClampNeg) then
      if ((v1 >>> (v2 &&& 31)) &&& 1) = 1 then
        (fX11_clashBits v2 μ).bind fun q1 =>
        if (v1 &&& q1) = 0 then
          fX11_isCalm_2 v1 μ K n (v2 + 1)
        else
          some false
      else
        fX11_isCalm_2 v1 μ K n (v2 + 1)
    else
      K ()
    else none
def fX11_isCalm (a1 : Int32) (μ : Mem) : Option (Bool) :=
  fX11_isCalm_2 a1 μ (fun _ =>
      some true
  ) FU 0
set_option maxRecDepth 100000 in
theorem wX11_isCalm_2   (v1 : Int32) (μ : Mem) (K : Unit → Option (Bool)) {res : Bool} (hK : ∀ (_ : Unit), K () = some res → RW mX11_isCalm 4 NF NF 42 [] [] (μ, Rf0, NF) (QN (some (.int (b2i res))) μ Rf0 NF)) : ∀ (n9 : Nat) (v2 : Int32), fX11_isCalm_2 v1 μ K n9 v2 = some res → RW mX11_isCalm 4 NF NF 2 [(0, .ref 243), (1, .int v1), (2, .int v2)] [] (μ, Rf0, NF) (QN (some (.int (b2i res))) μ Rf0 NF) := by
  intro n9
  induction n9 with
  | zero => intro _ h; cases h
  | succ n ih =>
    intro v2 h
    unfold fX11_isCalm_2 at h
    refine rw_iload_n 2 dX11_isCalm_2 2 rfl ?_
    refine rw_aload_n 3 dX11_isCalm_3 0 rfl ?_
    refine rw_getR 4 11 26 kc11 dX11_isCalm_4 ly_243 rln_243 fX11_55 rfl rf_243_26 ?_
    refine rw_aload_n 7 dX11_isCalm_7 0 rfl ?_
    refine rw_getI 8 11 18 kc11 dX11_isCalm_8 ly_243 rln_243 fX11_236 rfl ?_
    refine rn_iald 11 dX11_isCalm_11 ly_256 rln_256 h (fun h => ?_)
    refine rn_icmp_ge 12 42 dX11_isCalm_12 (by decide) h (fun _ h => ?_) (fun _ h => ?_)
    · refine rw_pick 42 [] rfl ?_
      exact hK () h
    · refine rw_iload_n 15 dX11_isCalm_15 1 rfl ?_
      refine rw_iload_n 16 dX11_isCalm_16 2 rfl ?_
      refine rw_ishr 17 dX11_isCalm_17 ?_
      refine rw_iconst 18 (v := 1) dX11_isCalm_18 (by decide) ?_
      refine rw_iand 19 dX11_isCalm_19 ?_
      refine rw_iconst 20 (v := 1) dX11_isCalm_20 (by decide) ?_
      refine rn_icmp_ne 21 36 dX11_isCalm_21 (by decide) h (fun _ h => ?_) (fun _ h => ?_)
      · refine rw_iinc 36 [(0, .ref 243), (1, .int v1), (2, .int (v2 + 1))] dX11_isCalm_36 2 rfl rfl (by decide) rfl ?_
        refine rw_goto 39 2 dX11_isCalm_39 (by decide) ?_
        exact ih (v2 + 1) h
      · refine rw_iload_n 24 dX11_isCalm_24 1 rfl ?_
        refine rw_aload_n 25 dX11_isCalm_25 0 rfl ?_
        refine rw_iload_n 26 dX11_isCalm_26 2 rfl ?_
        refine rn_cVpi 27 11 [.int v2] dX11_isCalm_27 caX11_clashBits lX11_419 inX11_clashBits slX11_clashBits rfl ly_243 ⟨_, rfl, rfl⟩ rln_243 naX11_clashBits (Nat.le_of_ble_eq_true rfl) (Nat.le_of_ble_eq_true rfl) (by decide) (fun _ hq => wX11_clashBits v2 μ hq) h (fun q1 h => ?_)
        refine rw_iand 30 dX11_isCalm_30 ?_
        refine rn_if_eq 31 36 dX11_isCalm_31 (by decide) h (fun _ h => ?_) (fun _ h => ?_)
        · refine rw_iinc 36 [(0, .ref 243), (1, .int v1), (2, .int (v2 + 1))] dX11_isCalm_36 2 rfl rfl (by decide) rfl ?_
          refine rw_goto 39 2 dX11_isCalm_39 (by decide) ?_
          exact ih (v2 + 1) h
        · refine rw_iconst 34 (v := 0) dX11_isCalm_34 (by decide) ?_
          exact rn_zret 35 (v := false) dX11_isCalm_35 rfl h
set_option maxRecDepth 100000 in
theorem wX11_isCalm (a1 : Int32) (μ : Mem) {res : Bool} (h : fX11_isCalm a1 μ = some res) : Ct mX11_isCalm 4 NF NF [.ref 243, .int a1] (μ, Rf0, NF) (QN (some (.int (b2i res))) μ Rf0 NF) := by
  unfold fX11_isCalm at h
  show RW mX11_isCalm 4 NF NF 0 [(0, .ref 243), (1, .int a1)] [] (μ, Rf0, NF) (QN (some (.int (b2i res))) μ Rf0 NF)
  refine rw_iconst 0 (v := 0) dX11_isCalm_0 (by decide) ?_
  refine rw_istore_n 1 [(0, .ref 243), (1, .int a1), (2, .int 0)] dX11_isCalm_1 (by decide) rfl ?_
  refine wX11_isCalm_2 a1 μ _ (fun _ h => ?_) FU 0 h
  refine rw_iconst 42 (v := 1) dX11_isCalm_42 (by decide) ?_
  exact rn_zret 43 (v := true) dX11_isCalm_43 rfl h
def fX11_colours_38   (v1 : Int32)  (K : Mem → Option (Int32 × Mem)) : Nat → Int32 → Mem → Option (Int32 × Mem)
  | 0, _, _ => none
  | n + 1, v2, μ =>
    if v1 < v2 then
      K μ
    else
      (fX11_isPart v2 v1 μ).bind fun q4 =>
      if q4 = true then
        if inb (v1 &&& (v2 ^^^ (-1))) 128 then
        if inb v1 128 then
        if ((μ.1 284 (v1 &&& (v2 ^^^ (-1))).toNatClampNeg) + 1) < (μ.1 284 v1.toNatClampNeg) then
          (fX11_isCalm v2 μ).bind fun q5 =>
          if q5 = true then
            if inb (v1 &&& (v2 ^^^ (-1))) 128 then
            if inb v1 128 then nm (wI μ 284 v1.toNatClampNeg ((μ.1 284 (v1 &&& (v2 ^^^ (-1))).toNatClampNeg) + 1)) fun μ6 =>
            fX11_colours_38 v1 K n (v2 + 1) μ6
            else none
            else none
          else
            fX11_colours_38 v1 K n (v2 + 1) μ
        else
          fX11_colours_38 v1 K n (v2 + 1) μ
        else none
        else none
      else
        fX11_colours_38 v1 K n (v2 + 1) μ
def fX11_colours_13     (K : Mem → Option (Int32 × Mem)) : Nat → Int32 → Mem → Option (Int32 × Mem)
  | 0, _, _ => none
  | n + 1, v1, μ =>
    if inb (μ.1 243 18) 2 then
    if v1 < ((1 : Int32) <<< ((μ.1 256 (μ.1 243 18).toNatClampNeg) &&& 31)) then
      if inb v1 128 then nm (wI μ 284 v1.toNatClampNeg 7) fun μ3 =>
      fX11_colours_38 v1 (fun μ7 =>
          fX11_colours_13 K n (v1 + 1) μ7
      ) FU 1 μ3
      else none
    else
      K μ
    else none
def fX11_colours  (μ : Mem) : Option (Int32 × Mem) :=
  (fX11_copies μ).bind fun q1 =>
  nm (wI q1 284 0 0) fun μ2 =>
  fX11_colours_13  (fun μ8 =>
      (fX11_livingBits μ8).bind fun q9 =>
      if inb q9 128 then
      some ((μ8.1 284 q9.toNatClampNeg), μ8)
      else none
  ) FU 1 μ2
set_option maxRecDepth 100000 in
theorem wX11_colours_38   (v1 : Int32)  (K : Mem → Option (Int32 × Mem)) {res : Int32 × Mem} (hK : ∀  (μ : Mem), K μ = some res → RW mX11_colours 5 NF NF 104 [(0, .ref 243), (1, .int v1)] [] (μ, Rf0, NF) (QN (some (.int res.1)) res.2 Rf0 NF)) : ∀ (n9 : Nat) (v2 : Int32) (μ : Mem), fX11_colours_38 v1 K n9 v2 μ = some res → RW mX11_colours 5 NF NF 38 [(0, .ref 243), (1, .int v1), (2, .int v2)] [] (μ, Rf0, NF) (QN (some (.int res.1)) res.2 Rf0 NF) := by
  intro n9
  induction n9 with
  | zero => intro _ _ h; cases h
  | succ n ih =>
    intro v2 μ h
    unfold fX11_colours_38 at h
    refine rw_iload_n 38 dX11_colours_38 2 rfl ?_
    refine rw_iload_n 39 dX11_colours_39 1 rfl ?_
    refine rn_icmp_gt 40 104 dX11_colours_40 (by decide) h (fun _ h => ?_) (fun _ h => ?_)
    · refine rw_pick 104 [0, 1] rfl ?_
      exact hK μ h
    · refine rw_iload_n 43 dX11_colours_43 2 rfl ?_
      refine rw_iload_n 44 dX11_colours_44 1 rfl ?_
      refine rn_cSpb 45 [.int v2, .int v1] dX11_colours_45 caX11_isPart lX11_443 stX11_isPart rfl naX11_isPart (Nat.le_of_ble_eq_true rfl) (Nat.le_of_ble_eq_true rfl) (by decide) (fun _ hq => wX11_isPart v2 v1 μ hq) h (fun q4 h => ?_)
      refine rn_ifb_eq 48 98 dX11_colours_48 (by decide) h (fun _ h => ?_) (fun _ h => ?_)
      · refine rw_iinc 98 [(0, .ref 243), (1, .int v1), (2, .int (v2 + 1))] dX11_colours_98 2 rfl rfl (by decide) rfl ?_
        refine rw_goto 101 38 dX11_colours_101 (by decide) ?_
        exact ih (v2 + 1) μ h
      · refine rw_aload_n 51 dX11_colours_51 0 rfl ?_
        refine rw_getR 52 11 61 kc11 dX11_colours_52 ly_243 rln_243 fX11_140 rfl rf_243_61 ?_
        refine rw_iload_n 55 dX11_colours_55 1 rfl ?_
        refine rw_iload_n 56 dX11_colours_56 2 rfl ?_
        refine rw_iconst 57 (v := -1) dX11_colours_57 (by decide) ?_
        refine rw_ixor 58 dX11_colours_58 ?_
        refine rw_iand 59 dX11_colours_59 ?_
        refine rn_iald 60 dX11_colours_60 ly_284 rln_284 h (fun h => ?_)
        refine rw_iconst 61 (v := 1) dX11_colours_61 (by decide) ?_
        refine rw_iadd 62 dX11_colours_62 ?_
        refine rw_aload_n 63 dX11_colours_63 0 rfl ?_
        refine rw_getR 64 11 61 kc11 dX11_colours_64 ly_243 rln_243 fX11_140 rfl rf_243_61 ?_
        refine rw_iload_n 67 dX11_colours_67 1 rfl ?_
        refine rn_iald 68 dX11_colours_68 ly_284 rln_284 h (fun h => ?_)
        refine rn_icmp_ge 69 98 dX11_colours_69 (by decide) h (fun _ h => ?_) (fun _ h => ?_)
        · refine rw_iinc 98 [(0, .ref 243), (1, .int v1), (2, .int (v2 + 1))] dX11_colours_98 2 rfl rfl (by decide) rfl ?_
          refine rw_goto 101 38 dX11_colours_101 (by decide) ?_
          exact ih (v2 + 1) μ h
        · refine rw_aload_n 72 dX11_colours_72 0 rfl ?_
          refine rw_iload_n 73 dX11_colours_73 2 rfl ?_
          refine rn_cVpb 74 11 [.int v2] dX11_colours_74 caX11_isCalm lX11_464 inX11_isCalm slX11_isCalm rfl ly_243 ⟨_, rfl, rfl⟩ rln_243 naX11_isCalm (Nat.le_of_ble_eq_true rfl) (Nat.le_of_ble_eq_true rfl) (by decide) (fun _ hq => wX11_isCalm v2 μ hq) h (fun q5 h => ?_)
          refine rn_ifb_eq 77 98 dX11_colours_77 (by decide) h (fun _ h => ?_) (fun _ h => ?_)
          · refine rw_iinc 98 [(0, .ref 243), (1, .int v1), (2, .int (v2 + 1))] dX11_colours_98 2 rfl rfl (by decide) rfl ?_
            refine rw_goto 101 38 dX11_colours_101 (by decide) ?_
            exact ih (v2 + 1) μ h
          · refine rw_aload_n 80 dX11_colours_80 0 rfl ?_
            refine rw_getR 81 11 61 kc11 dX11_colours_81 ly_243 rln_243 fX11_140 rfl rf_243_61 ?_
            refine rw_iload_n 84 dX11_colours_84 1 rfl ?_
            refine rw_aload_n 85 dX11_colours_85 0 rfl ?_
            refine rw_getR 86 11 61 kc11 dX11_colours_86 ly_243 rln_243 fX11_140 rfl rf_243_61 ?_
            refine rw_iload_n 89 dX11_colours_89 1 rfl ?_
            refine rw_iload_n 90 dX11_colours_90 2 rfl ?_
            refine rw_iconst 91 (v := -1) dX11_colours_91 (by decide) ?_
            refine rw_ixor 92 dX11_colours_92 ?_
            refine rw_iand 93 dX11_colours_93 ?_
            refine rn_iald 94 dX11_colours_94 ly_284 rln_284 h (fun h => ?_)
            refine rw_iconst 95 (v := 1) dX11_colours_95 (by decide) ?_
            refine rw_iadd 96 dX11_colours_96 ?_
            refine rn_iast 97 dX11_colours_97 ly_284 rln_284 h (fun μ6 h => ?_)
            refine rw_iinc 98 [(0, .ref 243), (1, .int v1), (2, .int (v2 + 1))] dX11_colours_98 2 rfl rfl (by decide) rfl ?_
            refine rw_goto 101 38 dX11_colours_101 (by decide) ?_
            exact ih (v2 + 1) μ6 h
set_option maxRecDepth 100000 in
theorem wX11_colours_13     (K : Mem → Option (Int32 × Mem)) {res : Int32 × Mem} (hK : ∀  (μ : Mem), K μ = some res → RW mX11_colours 5 NF NF 110 [(0, .ref 243)] [] (μ, Rf0, NF) (QN (some (.int res.1)) res.2 Rf0 NF)) : ∀ (n9 : Nat) (v1 : Int32) (μ : Mem), fX11_colours_13 K n9 v1 μ = some res → RW mX11_colours 5 NF NF 13 [(0, .ref 243), (1, .int v1)] [] (μ, Rf0, NF) (QN (some (.int res.1)) res.2 Rf0 NF) := by
  intro n9
  induction n9 with
  | zero => intro _ _ h; cases h
  | succ n ih =>
    intro v1 μ h
    unfold fX11_colours_13 at h
    refine rw_iload_n 13 dX11_colours_13 1 rfl ?_
    refine rw_iconst 14 (v := 1) dX11_colours_14 (by decide) ?_
    refine rw_aload_n 15 dX11_colours_15 0 rfl ?_
    refine rw_getR 16 11 26 kc11 dX11_colours_16 ly_243 rln_243 fX11_55 rfl rf_243_26 ?_
    refine rw_aload_n 19 dX11_colours_19 0 rfl ?_
    refine rw_getI 20 11 18 kc11 dX11_colours_20 ly_243 rln_243 fX11_236 rfl ?_
    refine rn_iald 23 dX11_colours_23 ly_256 rln_256 h (fun h => ?_)
    refine rw_ishl 24 dX11_colours_24 ?_
    refine rn_icmp_ge 25 110 dX11_colours_25 (by decide) h (fun _ h => ?_) (fun _ h => ?_)
    · refine rw_pick 110 [0] rfl ?_
      exact hK μ h
    · refine rw_aload_n 28 dX11_colours_28 0 rfl ?_
      refine rw_getR 29 11 61 kc11 dX11_colours_29 ly_243 rln_243 fX11_140 rfl rf_243_61 ?_
      refine rw_iload_n 32 dX11_colours_32 1 rfl ?_
      refine rw_bipush 33 (v := 7) dX11_colours_33 (by decide) ?_
      refine rn_iast 35 dX11_colours_35 ly_284 rln_284 h (fun μ3 h => ?_)
      refine rw_iconst 36 (v := 1) dX11_colours_36 (by decide) ?_
      refine rw_istore_n 37 [(0, .ref 243), (1, .int v1), (2, .int 1)] dX11_colours_37 (by decide) rfl ?_
      refine wX11_colours_38 v1 _ (fun μ7 h => ?_) FU 1 μ3 h
      refine rw_iinc 104 [(0, .ref 243), (1, .int (v1 + 1))] dX11_colours_104 1 rfl rfl (by decide) rfl ?_
      refine rw_goto 107 13 dX11_colours_107 (by decide) ?_
      exact ih (v1 + 1) μ7 h
set_option maxRecDepth 100000 in
theorem wX11_colours  (μ : Mem) {res : Int32 × Mem} (h : fX11_colours  μ = some res) : Ct mX11_colours 5 NF NF [.ref 243] (μ, Rf0, NF) (QN (some (.int res.1)) res.2 Rf0 NF) := by
  unfold fX11_colours at h
  show RW mX11_colours 5 NF NF 0 [(0, .ref 243)] [] (μ, Rf0, NF) (QN (some (.int res.1)) res.2 Rf0 NF)
  refine rw_aload_n 0 dX11_colours_0 0 rfl ?_
  refine rn_cVmv 1 11 [] dX11_colours_1 caX11_copies lX11_326 inX11_copies slX11_copies rfl ly_243 ⟨_, rfl, rfl⟩ rln_243 naX11_copies (Nat.le_of_ble_eq_true rfl) (Nat.le_of_ble_eq_true rfl) (by decide) (fun _ hq => wX11_copies μ hq) h (fun q1 h => ?_)
  refine rw_aload_n 4 dX11_colours_4 0 rfl ?_
  refine rw_getR 5 11 61 kc11 dX11_colours_5 ly_243 rln_243 fX11_140 rfl rf_243_61 ?_
  refine rw_iconst 8 (v := 0) dX11_colours_8 (by decide) ?_
  refine rw_iconst 9 (v := 0) dX11_colours_9 (by decide) ?_
  refine rn_iastc 10 dX11_colours_10 ly_284 rln_284 (by decide) (j := 0) (by decide) h (fun μ2 h => ?_)
  refine rw_iconst 11 (v := 1) dX11_colours_11 (by decide) ?_
  refine rw_istore_n 12 [(0, .ref 243), (1, .int 1)] dX11_colours_12 (by decide) rfl ?_
  refine wX11_colours_13 _ (fun μ8 h => ?_) FU 1 μ2 h
  refine rw_aload_n 110 dX11_colours_110 0 rfl ?_
  refine rw_getR 111 11 61 kc11 dX11_colours_111 ly_243 rln_243 fX11_140 rfl rf_243_61 ?_
  refine rw_aload_n 114 dX11_colours_114 0 rfl ?_
  refine rn_cVpi 115 11 [] dX11_colours_115 caX11_livingBits lX11_455 inX11_livingBits slX11_livingBits rfl ly_243 ⟨_, rfl, rfl⟩ rln_243 naX11_livingBits (Nat.le_of_ble_eq_true rfl) (Nat.le_of_ble_eq_true rfl) (by decide) (fun _ hq => wX11_livingBits μ8 hq) h (fun q9 h => ?_)
  refine rn_iald 118 dX11_colours_118 ly_284 rln_284 h (fun h => ?_)
  exact rn_iret2 119 dX11_colours_119 rfl h
def fX11_isTangle_2   (v1 : Int32) (μ : Mem) (K : Unit → Option (Bool)) : Nat → Int32 → Option (Bool)
  | 0, _ => none
  | n + 1, v2 =>
    if inb (μ.1 243 18) 2 then
    if v2 < (μ.1 256 (μ.1 243 18).toNatClampNeg) then
      if ((v1 >>> (v2 &&& 31)) &&& 1) = 1 then
        (fX11_clashBits v2 μ).bind fun q1 =>
        (fX11_isPart (v1 &&& (((1 : Int32) <<< (v2 &&& 31)) ^^^ (-1))) q1 μ).bind fun q2 =>
        if q2 = true then
          fX11_isTangle_2 v1 μ K n (v2 + 1)
        else
          some false
      else
        fX11_isTangle_2 v1 μ K n (v2 + 1)
    else
      K ()
    else none
def fX11_isTangle (a1 : Int32) (μ : Mem) : Option (Bool) :=
  fX11_isTangle_2 a1 μ (fun _ =>
      some true
  ) FU 0
set_option maxRecDepth 100000 in
theorem wX11_isTangle_2   (v1 : Int32) (μ : Mem) (K : Unit → Option (Bool)) {res : Bool} (hK : ∀ (_ : Unit), K () = some res → RW mX11_isTangle 4 NF NF 50 [] [] (μ, Rf0, NF) (QN (some (.int (b2i res))) μ Rf0 NF)) : ∀ (n9 : Nat) (v2 : Int32), fX11_isTangle_2 v1 μ K n9 v2 = some res → RW mX11_isTangle 4 NF NF 2 [(0, .ref 243), (1, .int v1), (2, .int v2)] [] (μ, Rf0, NF) (QN (some (.int (b2i res))) μ Rf0 NF) := by
  intro n9
  induction n9 with
  | zero => intro _ h; cases h
  | succ n ih =>
    intro v2 h
    unfold fX11_isTangle_2 at h
    refine rw_iload_n 2 dX11_isTangle_2 2 rfl ?_
    refine rw_aload_n 3 dX11_isTangle_3 0 rfl ?_
    refine rw_getR 4 11 26 kc11 dX11_isTangle_4 ly_243 rln_243 fX11_55 rfl rf_243_26 ?_
    refine rw_aload_n 7 dX11_isTangle_7 0 rfl ?_
    refine rw_getI 8 11 18 kc11 dX11_isTangle_8 ly_243 rln_243 fX11_236 rfl ?_
    refine rn_iald 11 dX11_isTangle_11 ly_256 rln_256 h (fun h => ?_)
    refine rn_icmp_ge 12 50 dX11_isTangle_12 (by decide) h (fun _ h => ?_) (fun _ h => ?_)
    · refine rw_pick 50 [] rfl ?_
      exact hK () h
    · refine rw_iload_n 15 dX11_isTangle_15 1 rfl ?_
      refine rw_iload_n 16 dX11_isTangle_16 2 rfl ?_
      refine rw_ishr 17 dX11_isTangle_17 ?_
      refine rw_iconst 18 (v := 1) dX11_isTangle_18 (by decide) ?_
      refine rw_iand 19 dX11_isTangle_19 ?_
      refine rw_iconst 20 (v := 1) dX11_isTangle_20 (by decide) ?_
      refine rn_icmp_ne 21 44 dX11_isTangle_21 (by decide) h (fun _ h => ?_) (fun _ h => ?_)
      · refine rw_iinc 44 [(0, .ref 243), (1, .int v1), (2, .int (v2 + 1))] dX11_isTangle_44 2 rfl rfl (by decide) rfl ?_
        refine rw_goto 47 2 dX11_isTangle_47 (by decide) ?_
        exact ih (v2 + 1) h
      · refine rw_iload_n 24 dX11_isTangle_24 1 rfl ?_
        refine rw_iconst 25 (v := 1) dX11_isTangle_25 (by decide) ?_
        refine rw_iload_n 26 dX11_isTangle_26 2 rfl ?_
        refine rw_ishl 27 dX11_isTangle_27 ?_
        refine rw_iconst 28 (v := -1) dX11_isTangle_28 (by decide) ?_
        refine rw_ixor 29 dX11_isTangle_29 ?_
        refine rw_iand 30 dX11_isTangle_30 ?_
        refine rw_aload_n 31 dX11_isTangle_31 0 rfl ?_
        refine rw_iload_n 32 dX11_isTangle_32 2 rfl ?_
        refine rn_cVpi 33 11 [.int v2] dX11_isTangle_33 caX11_clashBits lX11_419 inX11_clashBits slX11_clashBits rfl ly_243 ⟨_, rfl, rfl⟩ rln_243 naX11_clashBits (Nat.le_of_ble_eq_true rfl) (Nat.le_of_ble_eq_true rfl) (by decide) (fun _ hq => wX11_clashBits v2 μ hq) h (fun q1 h => ?_)
        refine rn_cSpb 36 [.int (v1 &&& (((1 : Int32) <<< (v2 &&& 31)) ^^^ (-1))), .int q1] dX11_isTangle_36 caX11_isPart lX11_443 stX11_isPart rfl naX11_isPart (Nat.le_of_ble_eq_true rfl) (Nat.le_of_ble_eq_true rfl) (by decide) (fun _ hq => wX11_isPart (v1 &&& (((1 : Int32) <<< (v2 &&& 31)) ^^^ (-1))) q1 μ hq) h (fun q2 h => ?_)
        refine rn_ifb_ne 39 44 dX11_isTangle_39 (by decide) h (fun _ h => ?_) (fun _ h => ?_)
        · refine rw_iinc 44 [(0, .ref 243), (1, .int v1), (2, .int (v2 + 1))] dX11_isTangle_44 2 rfl rfl (by decide) rfl ?_
          refine rw_goto 47 2 dX11_isTangle_47 (by decide) ?_
          exact ih (v2 + 1) h
        · refine rw_iconst 42 (v := 0) dX11_isTangle_42 (by decide) ?_
          exact rn_zret 43 (v := false) dX11_isTangle_43 rfl h
set_option maxRecDepth 100000 in
theorem wX11_isTangle (a1 : Int32) (μ : Mem) {res : Bool} (h : fX11_isTangle a1 μ = some res) : Ct mX11_isTangle 4 NF NF [.ref 243, .int a1] (μ, Rf0, NF) (QN (some (.int (b2i res))) μ Rf0 NF) := by
  unfold fX11_isTangle at h
  show RW mX11_isTangle 4 NF NF 0 [(0, .ref 243), (1, .int a1)] [] (μ, Rf0, NF) (QN (some (.int (b2i res))) μ Rf0 NF)
  refine rw_iconst 0 (v := 0) dX11_isTangle_0 (by decide) ?_
  refine rw_istore_n 1 [(0, .ref 243), (1, .int a1), (2, .int 0)] dX11_isTangle_1 (by decide) rfl ?_
  refine wX11_isTangle_2 a1 μ _ (fun _ h => ?_) FU 0 h
  refine rw_iconst 50 (v := 1) dX11_isTangle_50 (by decide) ?_
  exact rn_zret 51 (v := true) dX11_isTangle_51 rfl h
def fX11_tangle_25   (v1 : Int32) (v3 : Int32) (μ : Mem) (K : Int32 → Option (Int32 × Mem)) : Nat → Int32 → Int32 → Option (Int32 × Mem)
  | 0, _, _ => none
  | n + 1, v2, v4 =>
    if v3 < v4 then
      K v2
    else
      (fX11_isPart v4 v3 μ).bind fun q4 =>
      if q4 = true then
        (fX11_bits v4 μ).bind fun q5 =>
        (fX11_bits v2 μ).bind fun q6 =>
        if q6 < q5 then
          (fX11_isTangle v4 μ).bind fun q7 =>
          if q7 = true then
            fX11_tangle_25 v1 v3 μ K n v4 (v4 + 1)
          else
            fX11_tangle_25 v1 v3 μ K n v2 (v4 + 1)
        else
          fX11_tangle_25 v1 v3 μ K n v2 (v4 + 1)
      else
        fX11_tangle_25 v1 v3 μ K n v2 (v4 + 1)
def fX11_tangle (a1 : Int32) (μ : Mem) : Option (Int32 × Mem) :=
  (fX11_in a1 0 1 μ).bind fun q1 =>
  if q1 = true then
    (fX11_copies μ).bind fun q2 =>
    (fX11_livingBits q2).bind fun q3 =>
    fX11_tangle_25 a1 q3 q2 (fun y8 =>
        if a1 = 0 then
          (fX11_bits y8 q2).bind fun q9 =>
          some (q9, q2)
        else
          some (y8, q2)
    ) FU 0 0
  else
    some ((-1), μ)
set_option maxRecDepth 100000 in
theorem wX11_tangle_25   (v1 : Int32) (v3 : Int32) (μ : Mem) (K : Int32 → Option (Int32 × Mem)) {res : Int32 × Mem} (hK : ∀ (v2 : Int32), K v2 = some res → RW mX11_tangle 5 NF NF 70 [(1, .int v1), (2, .int v2)] [] (μ, Rf0, NF) (QN (some (.int res.1)) res.2 Rf0 NF)) : ∀ (n9 : Nat) (v2 : Int32) (v4 : Int32), fX11_tangle_25 v1 v3 μ K n9 v2 v4 = some res → RW mX11_tangle 5 NF NF 25 [(0, .ref 243), (1, .int v1), (2, .int v2), (3, .int v3), (4, .int v4)] [] (μ, Rf0, NF) (QN (some (.int res.1)) res.2 Rf0 NF) := by
  intro n9
  induction n9 with
  | zero => intro _ _ h; cases h
  | succ n ih =>
    intro v2 v4 h
    unfold fX11_tangle_25 at h
    refine rw_iload 25 dX11_tangle_25 4 rfl ?_
    refine rw_iload_n 27 dX11_tangle_27 3 rfl ?_
    refine rn_icmp_gt 28 70 dX11_tangle_28 (by decide) h (fun _ h => ?_) (fun _ h => ?_)
    · refine rw_pick 70 [1, 2] rfl ?_
      exact hK v2 h
    · refine rw_iload 31 dX11_tangle_31 4 rfl ?_
      refine rw_iload_n 33 dX11_tangle_33 3 rfl ?_
      refine rn_cSpb 34 [.int v4, .int v3] dX11_tangle_34 caX11_isPart lX11_443 stX11_isPart rfl naX11_isPart (Nat.le_of_ble_eq_true rfl) (Nat.le_of_ble_eq_true rfl) (by decide) (fun _ hq => wX11_isPart v4 v3 μ hq) h (fun q4 h => ?_)
      refine rn_ifb_eq 37 64 dX11_tangle_37 (by decide) h (fun _ h => ?_) (fun _ h => ?_)
      · refine rw_iinc 64 [(0, .ref 243), (1, .int v1), (2, .int v2), (3, .int v3), (4, .int (v4 + 1))] dX11_tangle_64 4 rfl rfl (by decide) rfl ?_
        refine rw_goto 67 25 dX11_tangle_67 (by decide) ?_
        exact ih v2 (v4 + 1) h
      · refine rw_iload 40 dX11_tangle_40 4 rfl ?_
        refine rn_cSpi 42 [.int v4] dX11_tangle_42 caX11_bits lX11_365 stX11_bits rfl naX11_bits (Nat.le_of_ble_eq_true rfl) (Nat.le_of_ble_eq_true rfl) (by decide) (fun _ hq => wX11_bits v4 μ hq) h (fun q5 h => ?_)
        refine rw_iload_n 45 dX11_tangle_45 2 rfl ?_
        refine rn_cSpi 46 [.int v2] dX11_tangle_46 caX11_bits lX11_365 stX11_bits rfl naX11_bits (Nat.le_of_ble_eq_true rfl) (Nat.le_of_ble_eq_true rfl) (by decide) (fun _ hq => wX11_bits v2 μ hq) h (fun q6 h => ?_)
        refine rn_icmp_le 49 64 dX11_tangle_49 (by decide) h (fun _ h => ?_) (fun _ h => ?_)
        · refine rw_iinc 64 [(0, .ref 243), (1, .int v1), (2, .int v2), (3, .int v3), (4, .int (v4 + 1))] dX11_tangle_64 4 rfl rfl (by decide) rfl ?_
          refine rw_goto 67 25 dX11_tangle_67 (by decide) ?_
          exact ih v2 (v4 + 1) h
        · refine rw_aload_n 52 dX11_tangle_52 0 rfl ?_
          refine rw_iload 53 dX11_tangle_53 4 rfl ?_
          refine rn_cVpb 55 11 [.int v4] dX11_tangle_55 caX11_isTangle lX11_467 inX11_isTangle slX11_isTangle rfl ly_243 ⟨_, rfl, rfl⟩ rln_243 naX11_isTangle (Nat.le_of_ble_eq_true rfl) (Nat.le_of_ble_eq_true rfl) (by decide) (fun _ hq => wX11_isTangle v4 μ hq) h (fun q7 h => ?_)
          refine rn_ifb_eq 58 64 dX11_tangle_58 (by decide) h (fun _ h => ?_) (fun _ h => ?_)
          · refine rw_iinc 64 [(0, .ref 243), (1, .int v1), (2, .int v2), (3, .int v3), (4, .int (v4 + 1))] dX11_tangle_64 4 rfl rfl (by decide) rfl ?_
            refine rw_goto 67 25 dX11_tangle_67 (by decide) ?_
            exact ih v2 (v4 + 1) h
          · refine rw_iload 61 dX11_tangle_61 4 rfl ?_
            refine rw_istore_n 63 [(0, .ref 243), (1, .int v1), (2, .int v4), (3, .int v3), (4, .int v4)] dX11_tangle_63 (by decide) rfl ?_
            refine rw_iinc 64 [(0, .ref 243), (1, .int v1), (2, .int v4), (3, .int v3), (4, .int (v4 + 1))] dX11_tangle_64 4 rfl rfl (by decide) rfl ?_
            refine rw_goto 67 25 dX11_tangle_67 (by decide) ?_
            exact ih v4 (v4 + 1) h
set_option maxRecDepth 100000 in
theorem wX11_tangle (a1 : Int32) (μ : Mem) {res : Int32 × Mem} (h : fX11_tangle a1 μ = some res) : Ct mX11_tangle 5 NF NF [.ref 243, .int a1] (μ, Rf0, NF) (QN (some (.int res.1)) res.2 Rf0 NF) := by
  unfold fX11_tangle at h
  show RW mX11_tangle 5 NF NF 0 [(0, .ref 243), (1, .int a1)] [] (μ, Rf0, NF) (QN (some (.int res.1)) res.2 Rf0 NF)
  refine rw_iload_n 0 dX11_tangle_0 1 rfl ?_
  refine rw_iconst 1 (v := 0) dX11_tangle_1 (by decide) ?_
  refine rw_iconst 2 (v := 1) dX11_tangle_2 (by decide) ?_
  refine rn_cSpb 3 [.int a1, .int 0, .int 1] dX11_tangle_3 caX11_in lX11_316 stX11_in rfl naX11_in (Nat.le_of_ble_eq_true rfl) (Nat.le_of_ble_eq_true rfl) (by decide) (fun _ hq => wX11_in a1 0 1 μ hq) h (fun q1 h => ?_)
  refine rn_ifb_ne 6 11 dX11_tangle_6 (by decide) h (fun _ h => ?_) (fun _ h => ?_)
  · refine rw_aload_n 11 dX11_tangle_11 0 rfl ?_
    refine rn_cVmv 12 11 [] dX11_tangle_12 caX11_copies lX11_326 inX11_copies slX11_copies rfl ly_243 ⟨_, rfl, rfl⟩ rln_243 naX11_copies (Nat.le_of_ble_eq_true rfl) (Nat.le_of_ble_eq_true rfl) (by decide) (fun _ hq => wX11_copies μ hq) h (fun q2 h => ?_)
    refine rw_iconst 15 (v := 0) dX11_tangle_15 (by decide) ?_
    refine rw_istore_n 16 [(0, .ref 243), (1, .int a1), (2, .int 0)] dX11_tangle_16 (by decide) rfl ?_
    refine rw_aload_n 17 dX11_tangle_17 0 rfl ?_
    refine rn_cVpi 18 11 [] dX11_tangle_18 caX11_livingBits lX11_455 inX11_livingBits slX11_livingBits rfl ly_243 ⟨_, rfl, rfl⟩ rln_243 naX11_livingBits (Nat.le_of_ble_eq_true rfl) (Nat.le_of_ble_eq_true rfl) (by decide) (fun _ hq => wX11_livingBits q2 hq) h (fun q3 h => ?_)
    refine rw_istore_n 21 [(0, .ref 243), (1, .int a1), (2, .int 0), (3, .int q3)] dX11_tangle_21 (by decide) rfl ?_
    refine rw_iconst 22 (v := 0) dX11_tangle_22 (by decide) ?_
    refine rw_istore 23 [(0, .ref 243), (1, .int a1), (2, .int 0), (3, .int q3), (4, .int 0)] dX11_tangle_23 (by decide) rfl ?_
    refine wX11_tangle_25 a1 q3 q2 _ (fun y8 h => ?_) FU 0 0 h
    refine rw_iload_n 70 dX11_tangle_70 0 rfl ?_
    refine rn_if_ne 71 81 dX11_tangle_71 (by decide) h (fun _ h => ?_) (fun _ h => ?_)
    · refine rw_iload_n 81 dX11_tangle_81 1 rfl ?_
      exact rn_iret2 82 dX11_tangle_82 rfl h
    · refine rw_iload_n 74 dX11_tangle_74 1 rfl ?_
      refine rn_cSpi 75 [.int y8] dX11_tangle_75 caX11_bits lX11_365 stX11_bits rfl naX11_bits (Nat.le_of_ble_eq_true rfl) (Nat.le_of_ble_eq_true rfl) (by decide) (fun _ hq => wX11_bits y8 q2 hq) h (fun q9 h => ?_)
      refine rw_goto 78 82 dX11_tangle_78 (by decide) ?_
      exact rn_iret2 82 dX11_tangle_82 rfl h
  · refine rw_iconst 9 (v := -1) dX11_tangle_9 (by decide) ?_
    exact rn_iret2 10 dX11_tangle_10 rfl h
def fX11_rivals (a1 : Int32) (μ : Mem) : Option (Int32) :=
  (fX11_isGuest a1 μ).bind fun q1 =>
  if q1 = true then
    (fX11_clashBits a1 μ).bind fun q2 =>
    some q2
  else
    some (-1)
set_option maxRecDepth 100000 in
theorem wX11_rivals (a1 : Int32) (μ : Mem) {res : Int32} (h : fX11_rivals a1 μ = some res) : Ct mX11_rivals 4 NF NF [.ref 243, .int a1] (μ, Rf0, NF) (QN (some (.int res)) μ Rf0 NF) := by
  unfold fX11_rivals at h
  show RW mX11_rivals 4 NF NF 0 [(0, .ref 243), (1, .int a1)] [] (μ, Rf0, NF) (QN (some (.int res)) μ Rf0 NF)
  refine rw_aload_n 0 dX11_rivals_0 0 rfl ?_
  refine rw_iload_n 1 dX11_rivals_1 1 rfl ?_
  refine rn_cVpb 2 11 [.int a1] dX11_rivals_2 caX11_isGuest lX11_410 inX11_isGuest slX11_isGuest rfl ly_243 ⟨_, rfl, rfl⟩ rln_243 naX11_isGuest (Nat.le_of_ble_eq_true rfl) (Nat.le_of_ble_eq_true rfl) (by decide) (fun _ hq => wX11_isGuest a1 μ hq) h (fun q1 h => ?_)
  refine rn_ifb_eq 5 16 dX11_rivals_5 (by decide) h (fun _ h => ?_) (fun _ h => ?_)
  · refine rw_iconst 16 (v := -1) dX11_rivals_16 (by decide) ?_
    exact rn_iret 17 dX11_rivals_17 rfl h
  · refine rw_aload_n 8 dX11_rivals_8 0 rfl ?_
    refine rw_iload_n 9 dX11_rivals_9 1 rfl ?_
    refine rn_cVpi 10 11 [.int a1] dX11_rivals_10 caX11_clashBits lX11_419 inX11_clashBits slX11_clashBits rfl ly_243 ⟨_, rfl, rfl⟩ rln_243 naX11_clashBits (Nat.le_of_ble_eq_true rfl) (Nat.le_of_ble_eq_true rfl) (by decide) (fun _ hq => wX11_clashBits a1 μ hq) h (fun q2 h => ?_)
    refine rw_goto 13 17 dX11_rivals_13 (by decide) ?_
    exact rn_iret 17 dX11_rivals_17 rfl h
def fX11_fitBits_4   (v1 : Int32) (μ : Mem) (K : Int32 → Option (Int32)) : Nat → Int32 → Int32 → Option (Int32)
  | 0, _, _ => none
  | n + 1, v2, v3 =>
    if inb (μ.1 243 18) 2 then
    if v3 < (μ.1 253 (μ.1 243 18).toNatClampNeg) then
      (fX11_doesFit v1 v3 μ).bind fun q1 =>
      if q1 = true then
        nm (v2 ||| ((1 : Int32) <<< (v3 &&& 31))) fun x2 =>
        fX11_fitBits_4 v1 μ K n x2 (v3 + 1)
      else
        fX11_fitBits_4 v1 μ K n v2 (v3 + 1)
    else
      K v2
    else none
def fX11_fitBits (a1 : Int32) (μ : Mem) : Option (Int32) :=
  fX11_fitBits_4 a1 μ (fun y3 =>
      some y3
  ) FU 0 0
set_option maxRecDepth 100000 in
theorem wX11_fitBits_4   (v1 : Int32) (μ : Mem) (K : Int32 → Option (Int32)) {res : Int32} (hK : ∀ (v2 : Int32), K v2 = some res → RW mX11_fitBits 3 NF NF 38 [(2, .int v2)] [] (μ, Rf0, NF) (QN (some (.int res)) μ Rf0 NF)) : ∀ (n9 : Nat) (v2 : Int32) (v3 : Int32), fX11_fitBits_4 v1 μ K n9 v2 v3 = some res → RW mX11_fitBits 3 NF NF 4 [(0, .ref 243), (1, .int v1), (2, .int v2), (3, .int v3)] [] (μ, Rf0, NF) (QN (some (.int res)) μ Rf0 NF) := by
  intro n9
  induction n9 with
  | zero => intro _ _ h; cases h
  | succ n ih =>
    intro v2 v3 h
    unfold fX11_fitBits_4 at h
    refine rw_iload_n 4 dX11_fitBits_4 3 rfl ?_
    refine rw_aload_n 5 dX11_fitBits_5 0 rfl ?_
    refine rw_getR 6 11 23 kc11 dX11_fitBits_6 ly_243 rln_243 fX11_46 rfl rf_243_23 ?_
    refine rw_aload_n 9 dX11_fitBits_9 0 rfl ?_
    refine rw_getI 10 11 18 kc11 dX11_fitBits_10 ly_243 rln_243 fX11_236 rfl ?_
    refine rn_iald 13 dX11_fitBits_13 ly_253 rln_253 h (fun h => ?_)
    refine rn_icmp_ge 14 38 dX11_fitBits_14 (by decide) h (fun _ h => ?_) (fun _ h => ?_)
    · refine rw_pick 38 [2] rfl ?_
      exact hK v2 h
    · refine rw_aload_n 17 dX11_fitBits_17 0 rfl ?_
      refine rw_iload_n 18 dX11_fitBits_18 1 rfl ?_
      refine rw_iload_n 19 dX11_fitBits_19 3 rfl ?_
      refine rn_cVpb 20 11 [.int v1, .int v3] dX11_fitBits_20 caX11_doesFit lX11_416 inX11_doesFit slX11_doesFit rfl ly_243 ⟨_, rfl, rfl⟩ rln_243 naX11_doesFit (Nat.le_of_ble_eq_true rfl) (Nat.le_of_ble_eq_true rfl) (by decide) (fun _ hq => wX11_doesFit v1 v3 μ hq) h (fun q1 h => ?_)
      refine rn_ifb_eq 23 32 dX11_fitBits_23 (by decide) h (fun _ h => ?_) (fun _ h => ?_)
      · refine rw_iinc 32 [(0, .ref 243), (1, .int v1), (2, .int v2), (3, .int (v3 + 1))] dX11_fitBits_32 3 rfl rfl (by decide) rfl ?_
        refine rw_goto 35 4 dX11_fitBits_35 (by decide) ?_
        exact ih v2 (v3 + 1) h
      · refine rw_iload_n 26 dX11_fitBits_26 2 rfl ?_
        refine rw_iconst 27 (v := 1) dX11_fitBits_27 (by decide) ?_
        refine rw_iload_n 28 dX11_fitBits_28 3 rfl ?_
        refine rw_ishl 29 dX11_fitBits_29 ?_
        refine rw_ior 30 dX11_fitBits_30 ?_
        refine rn_ist_n 31 (fun x2 => [(0, .ref 243), (1, .int v1), (2, .int x2), (3, .int v3)]) dX11_fitBits_31 (by decide) (fun _ => rfl) h (fun x2 h => ?_)
        refine rw_iinc 32 [(0, .ref 243), (1, .int v1), (2, .int x2), (3, .int (v3 + 1))] dX11_fitBits_32 3 rfl rfl (by decide) rfl ?_
        refine rw_goto 35 4 dX11_fitBits_35 (by decide) ?_
        exact ih x2 (v3 + 1) h
set_option maxRecDepth 100000 in
theorem wX11_fitBits (a1 : Int32) (μ : Mem) {res : Int32} (h : fX11_fitBits a1 μ = some res) : Ct mX11_fitBits 3 NF NF [.ref 243, .int a1] (μ, Rf0, NF) (QN (some (.int res)) μ Rf0 NF) := by
  unfold fX11_fitBits at h
  show RW mX11_fitBits 3 NF NF 0 [(0, .ref 243), (1, .int a1)] [] (μ, Rf0, NF) (QN (some (.int res)) μ Rf0 NF)
  refine rw_iconst 0 (v := 0) dX11_fitBits_0 (by decide) ?_
  refine rw_istore_n 1 [(0, .ref 243), (1, .int a1), (2, .int 0)] dX11_fitBits_1 (by decide) rfl ?_
  refine rw_iconst 2 (v := 0) dX11_fitBits_2 (by decide) ?_
  refine rw_istore_n 3 [(0, .ref 243), (1, .int a1), (2, .int 0), (3, .int 0)] dX11_fitBits_3 (by decide) rfl ?_
  refine wX11_fitBits_4 a1 μ _ (fun y3 h => ?_) FU 0 0 h
  refine rw_iload_n 38 dX11_fitBits_38 0 rfl ?_
  exact rn_iret 39 dX11_fitBits_39 rfl h
def fX11_fitting (a1 : Int32) (μ : Mem) : Option (Int32 × Mem) :=
  (fX11_isGuest a1 μ).bind fun q1 =>
  if q1 = true then
    (fX11_copies μ).bind fun q2 =>
    (fX11_fitBits a1 q2).bind fun q3 =>
    some (q3, q2)
  else
    some ((-1), μ)
set_option maxRecDepth 100000 in
theorem wX11_fitting (a1 : Int32) (μ : Mem) {res : Int32 × Mem} (h : fX11_fitting a1 μ = some res) : Ct mX11_fitting 4 NF NF [.ref 243, .int a1] (μ, Rf0, NF) (QN (some (.int res.1)) res.2 Rf0 NF) := by
  unfold fX11_fitting at h
  show RW mX11_fitting 4 NF NF 0 [(0, .ref 243), (1, .int a1)] [] (μ, Rf0, NF) (QN (some (.int res.1)) res.2 Rf0 NF)
  refine rw_aload_n 0 dX11_fitting_0 0 rfl ?_
  refine rw_iload_n 1 dX11_fitting_1 1 rfl ?_
  refine rn_cVpb 2 11 [.int a1] dX11_fitting_2 caX11_isGuest lX11_410 inX11_isGuest slX11_isGuest rfl ly_243 ⟨_, rfl, rfl⟩ rln_243 naX11_isGuest (Nat.le_of_ble_eq_true rfl) (Nat.le_of_ble_eq_true rfl) (by decide) (fun _ hq => wX11_isGuest a1 μ hq) h (fun q1 h => ?_)
  refine rn_ifb_ne 5 10 dX11_fitting_5 (by decide) h (fun _ h => ?_) (fun _ h => ?_)
  · refine rw_aload_n 10 dX11_fitting_10 0 rfl ?_
    refine rn_cVmv 11 11 [] dX11_fitting_11 caX11_copies lX11_326 inX11_copies slX11_copies rfl ly_243 ⟨_, rfl, rfl⟩ rln_243 naX11_copies (Nat.le_of_ble_eq_true rfl) (Nat.le_of_ble_eq_true rfl) (by decide) (fun _ hq => wX11_copies μ hq) h (fun q2 h => ?_)
    refine rw_aload_n 14 dX11_fitting_14 0 rfl ?_
    refine rw_iload_n 15 dX11_fitting_15 1 rfl ?_
    refine rn_cVpi 16 11 [.int a1] dX11_fitting_16 caX11_fitBits lX11_470 inX11_fitBits slX11_fitBits rfl ly_243 ⟨_, rfl, rfl⟩ rln_243 naX11_fitBits (Nat.le_of_ble_eq_true rfl) (Nat.le_of_ble_eq_true rfl) (by decide) (fun _ hq => wX11_fitBits a1 q2 hq) h (fun q3 h => ?_)
    exact rn_iret2 19 dX11_fitting_19 rfl h
  · refine rw_iconst 8 (v := -1) dX11_fitting_8 (by decide) ?_
    exact rn_iret2 9 dX11_fitting_9 rfl h
def fX11_row_23   (v1 : Int32) (v2 : Int32) (μ : Mem) (K : Unit → Option (Int32 × Mem)) : Nat → Int32 → Int32 → Option (Int32 × Mem)
  | 0, _, _ => none
  | n + 1, v3, v4 =>
    if v4 < 24 then
      (fX11_whoIsAt v1 v4 μ).bind fun q3 =>
      if q3 < 0 then
        fX11_row_23 v1 v2 μ K n v3 (v4 + 1)
      else
        (fX11_fromAt q3 μ).bind fun q4 =>
        if q4 = v4 then
          if v3 = v2 then
            some (q3, μ)
          else
            fX11_row_23 v1 v2 μ K n (v3 + 1) (v4 + 1)
        else
          fX11_row_23 v1 v2 μ K n v3 (v4 + 1)
    else
      K ()
def fX11_row (a1 : Int32) (a2 : Int32) (μ : Mem) : Option (Int32 × Mem) :=
  (fX11_isSunday a1 μ).bind fun q1 =>
  if q1 = true then
    if a2 < 0 then
      some ((-1), μ)
    else
      (fX11_copies μ).bind fun q2 =>
      fX11_row_23 a1 a2 q2 (fun _ =>
          some ((-1), q2)
      ) FU 0 0
  else
    some ((-1), μ)
set_option maxRecDepth 100000 in
theorem wX11_row_23   (v1 : Int32) (v2 : Int32) (μ : Mem) (K : Unit → Option (Int32 × Mem)) {res : Int32 × Mem} (hK : ∀ (_ : Unit), K () = some res → RW mX11_row 3 NF NF 75 [] [] (μ, Rf0, NF) (QN (some (.int res.1)) res.2 Rf0 NF)) : ∀ (n9 : Nat) (v3 : Int32) (v4 : Int32), fX11_row_23 v1 v2 μ K n9 v3 v4 = some res → RW mX11_row 3 NF NF 23 [(0, .ref 243), (1, .int v1), (2, .int v2), (3, .int v3), (4, .int v4)] [] (μ, Rf0, NF) (QN (some (.int res.1)) res.2 Rf0 NF) := by
  intro n9
  induction n9 with
  | zero => intro _ _ h; cases h
  | succ n ih =>
    intro v3 v4 h
    unfold fX11_row_23 at h
    refine rw_iload 23 dX11_row_23 4 rfl ?_
    refine rw_bipush 25 (v := 24) dX11_row_25 (by decide) ?_
    refine rn_icmp_ge 27 75 dX11_row_27 (by decide) h (fun _ h => ?_) (fun _ h => ?_)
    · refine rw_pick 75 [] rfl ?_
      exact hK () h
    · refine rw_aload_n 30 dX11_row_30 0 rfl ?_
      refine rw_iload_n 31 dX11_row_31 1 rfl ?_
      refine rw_iload 32 dX11_row_32 4 rfl ?_
      refine rn_cVpi 34 11 [.int v1, .int v4] dX11_row_34 caX11_whoIsAt lX11_413 inX11_whoIsAt slX11_whoIsAt rfl ly_243 ⟨_, rfl, rfl⟩ rln_243 naX11_whoIsAt (Nat.le_of_ble_eq_true rfl) (Nat.le_of_ble_eq_true rfl) (by decide) (fun _ hq => wX11_whoIsAt v1 v4 μ hq) h (fun q3 h => ?_)
      refine rw_istore 37 [(0, .ref 243), (1, .int v1), (2, .int v2), (3, .int v3), (4, .int v4), (5, .int q3)] dX11_row_37 (by decide) rfl ?_
      refine rw_iload 39 dX11_row_39 5 rfl ?_
      refine rn_if_lt 41 69 dX11_row_41 (by decide) h (fun _ h => ?_) (fun _ h => ?_)
      · refine rw_iinc 69 [(0, .ref 243), (1, .int v1), (2, .int v2), (3, .int v3), (4, .int (v4 + 1)), (5, .int q3)] dX11_row_69 4 rfl rfl (by decide) rfl ?_
        refine rw_goto 72 23 dX11_row_72 (by decide) ?_
        refine rw_pick 23 [0, 1, 2, 3, 4] rfl ?_
        exact ih v3 (v4 + 1) h
      · refine rw_aload_n 44 dX11_row_44 0 rfl ?_
        refine rw_iload 45 dX11_row_45 5 rfl ?_
        refine rn_cVpi 47 11 [.int q3] dX11_row_47 caX11_fromAt lX11_333 inX11_fromAt slX11_fromAt rfl ly_243 ⟨_, rfl, rfl⟩ rln_243 naX11_fromAt (Nat.le_of_ble_eq_true rfl) (Nat.le_of_ble_eq_true rfl) (by decide) (fun _ hq => wX11_fromAt q3 μ hq) h (fun q4 h => ?_)
        refine rw_iload 50 dX11_row_50 4 rfl ?_
        refine rn_icmp_eq 52 58 dX11_row_52 (by decide) h (fun _ h => ?_) (fun _ h => ?_)
        · refine rw_iload_n 58 dX11_row_58 3 rfl ?_
          refine rw_iload_n 59 dX11_row_59 2 rfl ?_
          refine rn_icmp_ne 60 66 dX11_row_60 (by decide) h (fun _ h => ?_) (fun _ h => ?_)
          · refine rw_iinc 66 [(0, .ref 243), (1, .int v1), (2, .int v2), (3, .int (v3 + 1)), (4, .int v4), (5, .int q3)] dX11_row_66 3 rfl rfl (by decide) rfl ?_
            refine rw_iinc 69 [(0, .ref 243), (1, .int v1), (2, .int v2), (3, .int (v3 + 1)), (4, .int (v4 + 1)), (5, .int q3)] dX11_row_69 4 rfl rfl (by decide) rfl ?_
            refine rw_goto 72 23 dX11_row_72 (by decide) ?_
            refine rw_pick 23 [0, 1, 2, 3, 4] rfl ?_
            exact ih (v3 + 1) (v4 + 1) h
          · refine rw_iload 63 dX11_row_63 5 rfl ?_
            exact rn_iret2 65 dX11_row_65 rfl h
        · refine rw_goto 55 69 dX11_row_55 (by decide) ?_
          refine rw_iinc 69 [(0, .ref 243), (1, .int v1), (2, .int v2), (3, .int v3), (4, .int (v4 + 1)), (5, .int q3)] dX11_row_69 4 rfl rfl (by decide) rfl ?_
          refine rw_goto 72 23 dX11_row_72 (by decide) ?_
          refine rw_pick 23 [0, 1, 2, 3, 4] rfl ?_
          exact ih v3 (v4 + 1) h
set_option maxRecDepth 100000 in
theorem wX11_row (a1 : Int32) (a2 : Int32) (μ : Mem) {res : Int32 × Mem} (h : fX11_row a1 a2 μ = some res) : Ct mX11_row 3 NF NF [.ref 243, .int a1, .int a2] (μ, Rf0, NF) (QN (some (.int res.1)) res.2 Rf0 NF) := by
  unfold fX11_row at h
  show RW mX11_row 3 NF NF 0 [(0, .ref 243), (1, .int a1), (2, .int a2)] [] (μ, Rf0, NF) (QN (some (.int res.1)) res.2 Rf0 NF)
  refine rw_aload_n 0 dX11_row_0 0 rfl ?_
  refine rw_iload_n 1 dX11_row_1 1 rfl ?_
  refine rn_cVpb 2 11 [.int a1] dX11_row_2 caX11_isSunday lX11_404 inX11_isSunday slX11_isSunday rfl ly_243 ⟨_, rfl, rfl⟩ rln_243 naX11_isSunday (Nat.le_of_ble_eq_true rfl) (Nat.le_of_ble_eq_true rfl) (by decide) (fun _ hq => wX11_isSunday a1 μ hq) h (fun q1 h => ?_)
  refine rn_ifb_eq 5 12 dX11_row_5 (by decide) h (fun _ h => ?_) (fun _ h => ?_)
  · refine rw_iconst 12 (v := -1) dX11_row_12 (by decide) ?_
    exact rn_iret2 13 dX11_row_13 rfl h
  · refine rw_iload_n 8 dX11_row_8 2 rfl ?_
    refine rn_if_ge 9 14 dX11_row_9 (by decide) h (fun _ h => ?_) (fun _ h => ?_)
    · refine rw_aload_n 14 dX11_row_14 0 rfl ?_
      refine rn_cVmv 15 11 [] dX11_row_15 caX11_copies lX11_326 inX11_copies slX11_copies rfl ly_243 ⟨_, rfl, rfl⟩ rln_243 naX11_copies (Nat.le_of_ble_eq_true rfl) (Nat.le_of_ble_eq_true rfl) (by decide) (fun _ hq => wX11_copies μ hq) h (fun q2 h => ?_)
      refine rw_iconst 18 (v := 0) dX11_row_18 (by decide) ?_
      refine rw_istore_n 19 [(0, .ref 243), (1, .int a1), (2, .int a2), (3, .int 0)] dX11_row_19 (by decide) rfl ?_
      refine rw_iconst 20 (v := 0) dX11_row_20 (by decide) ?_
      refine rw_istore 21 [(0, .ref 243), (1, .int a1), (2, .int a2), (3, .int 0), (4, .int 0)] dX11_row_21 (by decide) rfl ?_
      refine wX11_row_23 a1 a2 q2 _ (fun _ h => ?_) FU 0 0 h
      refine rw_iconst 75 (v := -1) dX11_row_75 (by decide) ?_
      exact rn_iret2 76 dX11_row_76 rfl h
    · refine rw_iconst 12 (v := -1) dX11_row_12 (by decide) ?_
      exact rn_iret2 13 dX11_row_13 rfl h
