def fX3_leastWith_16 (t1 : Nat)  (v2 : Int32) (v3 : Int32) (v4 : Int32) (μ : Mem) (K : Int32 → Option (Int32)) : Nat → Int32 → Int32 → Option (Int32)
  | 0, _, _ => none
  | n + 1, v5, v6 =>
    if 0 < v6 then
      if inb v6 128 then
      if (μ.1 (t1 + 12) v6.toNatClampNeg) = 0 then
        nm (((v6 - 1) &&& v3) &&& v4) fun x3 =>
        fX3_leastWith_16 t1 v2 v3 v4 μ K n v5 x3
      else
        if inb v2 5 then
        if inb (v3 ^^^ v6) 128 then
        nm (mnI v5 (((μ.1 (190 + v2.toNatClampNeg) (v3 ^^^ v6).toNatClampNeg) + 16) + ((1 : Int32) <<< (v2 &&& 31)))) fun x5 =>
        nm (((v6 - 1) &&& v3) &&& v4) fun x6 =>
        fX3_leastWith_16 t1 v2 v3 v4 μ K n x5 x6
        else none
        else none
      else none
    else
      K v5
def fX3_leastWith (t1 : Nat) (a2 : Int32) (a3 : Int32) (a4 : Int32) (μ : Mem) : Option (Int32) :=
  if inb a2 5 then
  if inb a3 128 then
  nm (μ.1 (190 + a2.toNatClampNeg) a3.toNatClampNeg) fun x2 =>
  fX3_leastWith_16 t1 a2 a3 a4 μ (fun y7 =>
      some y7
  ) FU x2 (a3 &&& a4)
  else none
  else none
set_option maxRecDepth 100000 in
theorem wX3_leastWith_16 (t1 : Nat) (ht1 : okX7 Rf0 NF t1)  (v2 : Int32) (v3 : Int32) (v4 : Int32) (μ : Mem) (K : Int32 → Option (Int32)) {res : Int32} (hK : ∀ (v5 : Int32), K v5 = some res → RW mX3_leastWith 1 NF NF 70 [(5, .int v5)] [] (μ, Rf0, NF) (QN (some (.int res)) μ Rf0 NF)) : ∀ (n9 : Nat) (v5 : Int32) (v6 : Int32), fX3_leastWith_16 t1 v2 v3 v4 μ K n9 v5 v6 = some res → RW mX3_leastWith 1 NF NF 16 [(0, .ref 183), (1, .ref t1), (2, .int v2), (3, .int v3), (4, .int v4), (5, .int v5), (6, .int v6)] [] (μ, Rf0, NF) (QN (some (.int res)) μ Rf0 NF) := by
  intro n9
  induction n9 with
  | zero => intro _ _ h; cases h
  | succ n ih =>
    intro v5 v6 h
    unfold fX3_leastWith_16 at h
    refine rw_iload 16 dX3_leastWith_16 6 rfl ?_
    refine rn_if_le 18 70 dX3_leastWith_18 (by decide) h (fun _ h => ?_) (fun _ h => ?_)
    · refine rw_pick 70 [5] rfl ?_
      exact hK v5 h
    · refine rw_aload_n 21 dX3_leastWith_21 1 rfl ?_
      refine rw_getR 22 7 13 kc7 dX3_leastWith_22 (o7l ht1) (o7n ht1) fX3_39 rfl (o7r13 ht1) ?_
      refine rw_iload 25 dX3_leastWith_25 6 rfl ?_
      refine rn_zald 27 dX3_leastWith_27 (o7l13 ht1) (o7n13 ht1) h (fun h => ?_)
      refine rn_if_eq 28 56 dX3_leastWith_28 (by decide) h (fun _ h => ?_) (fun _ h => ?_)
      · refine rw_iload 56 dX3_leastWith_56 6 rfl ?_
        refine rw_iconst 58 (v := 1) dX3_leastWith_58 (by decide) ?_
        refine rw_isub 59 dX3_leastWith_59 ?_
        refine rw_iload_n 60 dX3_leastWith_60 3 rfl ?_
        refine rw_iand 61 dX3_leastWith_61 ?_
        refine rw_iload 62 dX3_leastWith_62 4 rfl ?_
        refine rw_iand 64 dX3_leastWith_64 ?_
        refine rn_ist 65 (fun x3 => [(0, .ref 183), (1, .ref t1), (2, .int v2), (3, .int v3), (4, .int v4), (5, .int v5), (6, .int x3)]) dX3_leastWith_65 (by decide) (fun _ => rfl) h (fun x3 h => ?_)
        refine rw_goto 67 16 dX3_leastWith_67 (by decide) ?_
        exact ih v5 x3 h
      · refine rw_iload 31 dX3_leastWith_31 5 rfl ?_
        refine rw_aload_n 33 dX3_leastWith_33 0 rfl ?_
        refine rw_getR 34 3 1 kc3 dX3_leastWith_34 ly_183 rln_183 fX3_16 rfl rf_183_1 ?_
        refine rw_iload_n 37 dX3_leastWith_37 2 rfl ?_
        refine rn_aald 38 5 (by decide) dX3_leastWith_38 ly_189 rln_189 h (fun hi4 => (rfr_189 _ (inb_lt hi4))) (fun hi4 h => ?_)
        refine rw_iload_n 39 dX3_leastWith_39 3 rfl ?_
        refine rw_iload 40 dX3_leastWith_40 6 rfl ?_
        refine rw_ixor 42 dX3_leastWith_42 ?_
        refine rn_iald 43 dX3_leastWith_43 (lyr_189 _ (inb_lt hi4)) (ltr_189 _ (inb_lt hi4)) h (fun h => ?_)
        refine rw_bipush 44 (v := 16) dX3_leastWith_44 (by decide) ?_
        refine rw_iadd 46 dX3_leastWith_46 ?_
        refine rw_iconst 47 (v := 1) dX3_leastWith_47 (by decide) ?_
        refine rw_iload_n 48 dX3_leastWith_48 2 rfl ?_
        refine rw_ishl 49 dX3_leastWith_49 ?_
        refine rw_iadd 50 dX3_leastWith_50 ?_
        refine rw_mmin 51 dX3_leastWith_51 lX3_86 stJ9_min_7cf53 iiJ9_min_7cf53 coJ9_min_7cf53 (by decide) (Nat.le_of_ble_eq_true rfl) ?_
        refine rn_ist 54 (fun x5 => [(0, .ref 183), (1, .ref t1), (2, .int v2), (3, .int v3), (4, .int v4), (5, .int x5), (6, .int v6)]) dX3_leastWith_54 (by decide) (fun _ => rfl) h (fun x5 h => ?_)
        refine rw_iload 56 dX3_leastWith_56 6 rfl ?_
        refine rw_iconst 58 (v := 1) dX3_leastWith_58 (by decide) ?_
        refine rw_isub 59 dX3_leastWith_59 ?_
        refine rw_iload_n 60 dX3_leastWith_60 3 rfl ?_
        refine rw_iand 61 dX3_leastWith_61 ?_
        refine rw_iload 62 dX3_leastWith_62 4 rfl ?_
        refine rw_iand 64 dX3_leastWith_64 ?_
        refine rn_ist 65 (fun x6 => [(0, .ref 183), (1, .ref t1), (2, .int v2), (3, .int v3), (4, .int v4), (5, .int x5), (6, .int x6)]) dX3_leastWith_65 (by decide) (fun _ => rfl) h (fun x6 h => ?_)
        refine rw_goto 67 16 dX3_leastWith_67 (by decide) ?_
        exact ih x5 x6 h
set_option maxRecDepth 100000 in
theorem wX3_leastWith (t1 : Nat) (ht1 : okX7 Rf0 NF t1) (a2 : Int32) (a3 : Int32) (a4 : Int32) (μ : Mem) {res : Int32} (h : fX3_leastWith t1 a2 a3 a4 μ = some res) : Ct mX3_leastWith 1 NF NF [.ref 183, .ref t1, .int a2, .int a3, .int a4] (μ, Rf0, NF) (QN (some (.int res)) μ Rf0 NF) := by
  unfold fX3_leastWith at h
  show RW mX3_leastWith 1 NF NF 0 [(0, .ref 183), (1, .ref t1), (2, .int a2), (3, .int a3), (4, .int a4)] [] (μ, Rf0, NF) (QN (some (.int res)) μ Rf0 NF)
  refine rw_aload_n 0 dX3_leastWith_0 0 rfl ?_
  refine rw_getR 1 3 1 kc3 dX3_leastWith_1 ly_183 rln_183 fX3_16 rfl rf_183_1 ?_
  refine rw_iload_n 4 dX3_leastWith_4 2 rfl ?_
  refine rn_aald 5 5 (by decide) dX3_leastWith_5 ly_189 rln_189 h (fun hi1 => (rfr_189 _ (inb_lt hi1))) (fun hi1 h => ?_)
  refine rw_iload_n 6 dX3_leastWith_6 3 rfl ?_
  refine rn_iald 7 dX3_leastWith_7 (lyr_189 _ (inb_lt hi1)) (ltr_189 _ (inb_lt hi1)) h (fun h => ?_)
  refine rn_ist 8 (fun x2 => [(0, .ref 183), (1, .ref t1), (2, .int a2), (3, .int a3), (4, .int a4), (5, .int x2)]) dX3_leastWith_8 (by decide) (fun _ => rfl) h (fun x2 h => ?_)
  refine rw_iload_n 10 dX3_leastWith_10 3 rfl ?_
  refine rw_iload 11 dX3_leastWith_11 4 rfl ?_
  refine rw_iand 13 dX3_leastWith_13 ?_
  refine rw_istore 14 [(0, .ref 183), (1, .ref t1), (2, .int a2), (3, .int a3), (4, .int a4), (5, .int x2), (6, .int (a3 &&& a4))] dX3_leastWith_14 (by decide) rfl ?_
  refine wX3_leastWith_16 t1 ht1 a2 a3 a4 μ _ (fun y7 h => ?_) FU x2 (a3 &&& a4) h
  refine rw_iload 70 dX3_leastWith_70 0 rfl ?_
  exact rn_iret 72 dX3_leastWith_72 rfl h
def fX3_leastCost_2 (t1 : Nat) (t2 : Nat)    (K : Mem → Option (Int32 × Mem)) : Nat → Int32 → Mem → Option (Int32 × Mem)
  | 0, _, _ => none
  | n + 1, v3, μ =>
    if v3 < 128 then
      if v3 = 0 then
        if inb v3 128 then nm (wI μ 190 v3.toNatClampNeg 0) fun μ2 =>
        fX3_leastCost_2 t1 t2 K n (v3 + 1) μ2
        else none
      else
        if inb v3 128 then nm (wI μ 190 v3.toNatClampNeg 1048576) fun μ1 =>
        fX3_leastCost_2 t1 t2 K n (v3 + 1) μ1
        else none
    else
      K μ
def fX3_leastCost_54 (t1 : Nat) (t2 : Nat)  (v3 : Int32) (v4 : Int32)  (K : Mem → Option (Int32 × Mem)) : Nat → Int32 → Mem → Option (Int32 × Mem)
  | 0, _, _ => none
  | n + 1, v5, μ =>
    if v5 < ((1 : Int32) <<< ((μ.1 t1 3) &&& 31)) then
      if inb (v3 + 1) 5 then
      (fX3_leastWith t1 v3 v5 v4 μ).bind fun q6 =>
      if inb v5 128 then nm (wI μ (190 + (v3 + 1).toNatClampNeg) v5.toNatClampNeg q6) fun μ7 =>
      fX3_leastCost_54 t1 t2 v3 v4 K n (v5 + 1) μ7
      else none
      else none
    else
      K μ
def fX3_leastCost_35 (t1 : Nat) (t2 : Nat)    (K : Mem → Option (Int32 × Mem)) : Nat → Int32 → Mem → Option (Int32 × Mem)
  | 0, _, _ => none
  | n + 1, v3, μ =>
    if v3 < (μ.1 t1 0) then
      (fX3_livingFit t1 t2 v3 μ).bind fun q4 =>
      fX3_leastCost_54 t1 t2 v3 q4 (fun μ8 =>
          fX3_leastCost_35 t1 t2 K n (v3 + 1) μ8
      ) FU 0 μ
    else
      K μ
def fX3_leastCost (t1 : Nat) (t2 : Nat) (μ : Mem) : Option (Int32 × Mem) :=
  fX3_leastCost_2 t1 t2 (fun μ3 =>
      fX3_leastCost_35 t1 t2 (fun μ9 =>
          if inb (μ9.1 t1 0) 5 then
          (fX5_alive t2 t1 μ9).bind fun q11 =>
          if inb q11 128 then
          some ((μ9.1 (190 + (μ9.1 t1 0).toNatClampNeg) q11.toNatClampNeg), μ9)
          else none
          else none
      ) FU 0 μ3
  ) FU 0 μ
set_option maxRecDepth 100000 in
theorem wX3_leastCost_2 (t1 : Nat) (ht1 : okX7 Rf0 NF t1) (t2 : Nat) (ht2 : okX5 Rf0 NF t2)    (K : Mem → Option (Int32 × Mem)) {res : Int32 × Mem} (hK : ∀  (μ : Mem), K μ = some res → RW mX3_leastCost 3 NF NF 33 [(0, .ref 183), (1, .ref t1), (2, .ref t2)] [] (μ, Rf0, NF) (QN (some (.int res.1)) res.2 Rf0 NF)) : ∀ (n9 : Nat) (v3 : Int32) (μ : Mem), fX3_leastCost_2 t1 t2 K n9 v3 μ = some res → RW mX3_leastCost 3 NF NF 2 [(0, .ref 183), (1, .ref t1), (2, .ref t2), (3, .int v3)] [] (μ, Rf0, NF) (QN (some (.int res.1)) res.2 Rf0 NF) := by
  intro n9
  induction n9 with
  | zero => intro _ _ h; cases h
  | succ n ih =>
    intro v3 μ h
    unfold fX3_leastCost_2 at h
    refine rw_iload_n 2 dX3_leastCost_2 3 rfl ?_
    refine rw_sipush 3 (v := 128) dX3_leastCost_3 (by decide) ?_
    refine rn_icmp_ge 6 33 dX3_leastCost_6 (by decide) h (fun _ h => ?_) (fun _ h => ?_)
    · refine rw_pick 33 [0, 1, 2] rfl ?_
      exact hK μ h
    · refine rw_aload_n 9 dX3_leastCost_9 0 rfl ?_
      refine rw_getR 10 3 1 kc3 dX3_leastCost_10 ly_183 rln_183 fX3_16 rfl rf_183_1 ?_
      refine rw_iconst 13 (v := 0) dX3_leastCost_13 (by decide) ?_
      refine rn_aaldc 14 5 (by decide) dX3_leastCost_14 ly_189 rln_189 (by decide) (j := 0) (by decide) rf_189_0 ?_
      refine rw_iload_n 15 dX3_leastCost_15 3 rfl ?_
      refine rw_iload_n 16 dX3_leastCost_16 3 rfl ?_
      refine rn_if_ne 17 24 dX3_leastCost_17 (by decide) h (fun _ h => ?_) (fun _ h => ?_)
      · refine rw_ldc 24 dX3_leastCost_24 lX3_77 ?_
        refine rn_iast 26 dX3_leastCost_26 ly_190 rln_190 h (fun μ1 h => ?_)
        refine rw_iinc 27 [(0, .ref 183), (1, .ref t1), (2, .ref t2), (3, .int (v3 + 1))] dX3_leastCost_27 3 rfl rfl (by decide) rfl ?_
        refine rw_goto 30 2 dX3_leastCost_30 (by decide) ?_
        exact ih (v3 + 1) μ1 h
      · refine rw_iconst 20 (v := 0) dX3_leastCost_20 (by decide) ?_
        refine rw_goto 21 26 dX3_leastCost_21 (by decide) ?_
        refine rn_iast 26 dX3_leastCost_26 ly_190 rln_190 h (fun μ2 h => ?_)
        refine rw_iinc 27 [(0, .ref 183), (1, .ref t1), (2, .ref t2), (3, .int (v3 + 1))] dX3_leastCost_27 3 rfl rfl (by decide) rfl ?_
        refine rw_goto 30 2 dX3_leastCost_30 (by decide) ?_
        exact ih (v3 + 1) μ2 h
set_option maxRecDepth 100000 in
theorem wX3_leastCost_54 (t1 : Nat) (ht1 : okX7 Rf0 NF t1) (t2 : Nat) (ht2 : okX5 Rf0 NF t2)  (v3 : Int32) (v4 : Int32)  (K : Mem → Option (Int32 × Mem)) {res : Int32 × Mem} (hK : ∀  (μ : Mem), K μ = some res → RW mX3_leastCost 3 NF NF 92 [(0, .ref 183), (1, .ref t1), (2, .ref t2), (3, .int v3)] [] (μ, Rf0, NF) (QN (some (.int res.1)) res.2 Rf0 NF)) : ∀ (n9 : Nat) (v5 : Int32) (μ : Mem), fX3_leastCost_54 t1 t2 v3 v4 K n9 v5 μ = some res → RW mX3_leastCost 3 NF NF 54 [(0, .ref 183), (1, .ref t1), (2, .ref t2), (3, .int v3), (4, .int v4), (5, .int v5)] [] (μ, Rf0, NF) (QN (some (.int res.1)) res.2 Rf0 NF) := by
  intro n9
  induction n9 with
  | zero => intro _ _ h; cases h
  | succ n ih =>
    intro v5 μ h
    unfold fX3_leastCost_54 at h
    refine rw_iload 54 dX3_leastCost_54 5 rfl ?_
    refine rw_iconst 56 (v := 1) dX3_leastCost_56 (by decide) ?_
    refine rw_aload_n 57 dX3_leastCost_57 1 rfl ?_
    refine rw_getI 58 7 3 kc7 dX3_leastCost_58 (o7l ht1) (o7n ht1) fX3_27 rfl ?_
    refine rw_ishl 61 dX3_leastCost_61 ?_
    refine rn_icmp_ge 62 92 dX3_leastCost_62 (by decide) h (fun _ h => ?_) (fun _ h => ?_)
    · refine rw_pick 92 [0, 1, 2, 3] rfl ?_
      exact hK μ h
    · refine rw_aload_n 65 dX3_leastCost_65 0 rfl ?_
      refine rw_getR 66 3 1 kc3 dX3_leastCost_66 ly_183 rln_183 fX3_16 rfl rf_183_1 ?_
      refine rw_iload_n 69 dX3_leastCost_69 3 rfl ?_
      refine rw_iconst 70 (v := 1) dX3_leastCost_70 (by decide) ?_
      refine rw_iadd 71 dX3_leastCost_71 ?_
      refine rn_aald 72 5 (by decide) dX3_leastCost_72 ly_189 rln_189 h (fun hi5 => (rfr_189 _ (inb_lt hi5))) (fun hi5 h => ?_)
      refine rw_iload 73 dX3_leastCost_73 5 rfl ?_
      refine rw_aload_n 75 dX3_leastCost_75 0 rfl ?_
      refine rw_aload_n 76 dX3_leastCost_76 1 rfl ?_
      refine rw_iload_n 77 dX3_leastCost_77 3 rfl ?_
      refine rw_iload 78 dX3_leastCost_78 5 rfl ?_
      refine rw_iload 80 dX3_leastCost_80 4 rfl ?_
      refine rn_cVpi 82 3 [.ref t1, .int v3, .int v5, .int v4] dX3_leastCost_82 caX3_leastWith lX3_78 inX3_leastWith slX3_leastWith rfl ly_183 ⟨_, rfl, rfl⟩ rln_183 naX3_leastWith (Nat.le_of_ble_eq_true rfl) (Nat.le_of_ble_eq_true rfl) (by decide) (fun _ hq => wX3_leastWith t1 ht1 v3 v5 v4 μ hq) h (fun q6 h => ?_)
      refine rn_iast 85 dX3_leastCost_85 (lyr_189 _ (inb_lt hi5)) (ltr_189 _ (inb_lt hi5)) h (fun μ7 h => ?_)
      refine rw_iinc 86 [(0, .ref 183), (1, .ref t1), (2, .ref t2), (3, .int v3), (4, .int v4), (5, .int (v5 + 1))] dX3_leastCost_86 5 rfl rfl (by decide) rfl ?_
      refine rw_goto 89 54 dX3_leastCost_89 (by decide) ?_
      exact ih (v5 + 1) μ7 h
set_option maxRecDepth 100000 in
theorem wX3_leastCost_35 (t1 : Nat) (ht1 : okX7 Rf0 NF t1) (t2 : Nat) (ht2 : okX5 Rf0 NF t2)    (K : Mem → Option (Int32 × Mem)) {res : Int32 × Mem} (hK : ∀  (μ : Mem), K μ = some res → RW mX3_leastCost 3 NF NF 98 [(0, .ref 183), (1, .ref t1), (2, .ref t2)] [] (μ, Rf0, NF) (QN (some (.int res.1)) res.2 Rf0 NF)) : ∀ (n9 : Nat) (v3 : Int32) (μ : Mem), fX3_leastCost_35 t1 t2 K n9 v3 μ = some res → RW mX3_leastCost 3 NF NF 35 [(0, .ref 183), (1, .ref t1), (2, .ref t2), (3, .int v3)] [] (μ, Rf0, NF) (QN (some (.int res.1)) res.2 Rf0 NF) := by
  intro n9
  induction n9 with
  | zero => intro _ _ h; cases h
  | succ n ih =>
    intro v3 μ h
    unfold fX3_leastCost_35 at h
    refine rw_iload_n 35 dX3_leastCost_35 3 rfl ?_
    refine rw_aload_n 36 dX3_leastCost_36 1 rfl ?_
    refine rw_getI 37 7 0 kc7 dX3_leastCost_37 (o7l ht1) (o7n ht1) fX3_62 rfl ?_
    refine rn_icmp_ge 40 98 dX3_leastCost_40 (by decide) h (fun _ h => ?_) (fun _ h => ?_)
    · refine rw_pick 98 [0, 1, 2] rfl ?_
      exact hK μ h
    · refine rw_aload_n 43 dX3_leastCost_43 1 rfl ?_
      refine rw_aload_n 44 dX3_leastCost_44 2 rfl ?_
      refine rw_iload_n 45 dX3_leastCost_45 3 rfl ?_
      refine rn_cSpi 46 [.ref t1, .ref t2, .int v3] dX3_leastCost_46 caX3_livingFit lX3_23 stX3_livingFit rfl naX3_livingFit (Nat.le_of_ble_eq_true rfl) (Nat.le_of_ble_eq_true rfl) (by decide) (fun _ hq => wX3_livingFit t1 ht1 t2 ht2 v3 μ hq) h (fun q4 h => ?_)
      refine rw_istore 49 [(0, .ref 183), (1, .ref t1), (2, .ref t2), (3, .int v3), (4, .int q4)] dX3_leastCost_49 (by decide) rfl ?_
      refine rw_iconst 51 (v := 0) dX3_leastCost_51 (by decide) ?_
      refine rw_istore 52 [(0, .ref 183), (1, .ref t1), (2, .ref t2), (3, .int v3), (4, .int q4), (5, .int 0)] dX3_leastCost_52 (by decide) rfl ?_
      refine wX3_leastCost_54 t1 ht1 t2 ht2 v3 q4 _ (fun μ8 h => ?_) FU 0 μ h
      refine rw_iinc 92 [(0, .ref 183), (1, .ref t1), (2, .ref t2), (3, .int (v3 + 1))] dX3_leastCost_92 3 rfl rfl (by decide) rfl ?_
      refine rw_goto 95 35 dX3_leastCost_95 (by decide) ?_
      exact ih (v3 + 1) μ8 h
set_option maxRecDepth 100000 in
theorem wX3_leastCost (t1 : Nat) (ht1 : okX7 Rf0 NF t1) (t2 : Nat) (ht2 : okX5 Rf0 NF t2) (μ : Mem) {res : Int32 × Mem} (h : fX3_leastCost t1 t2 μ = some res) : Ct mX3_leastCost 3 NF NF [.ref 183, .ref t1, .ref t2] (μ, Rf0, NF) (QN (some (.int res.1)) res.2 Rf0 NF) := by
  unfold fX3_leastCost at h
  show RW mX3_leastCost 3 NF NF 0 [(0, .ref 183), (1, .ref t1), (2, .ref t2)] [] (μ, Rf0, NF) (QN (some (.int res.1)) res.2 Rf0 NF)
  refine rw_iconst 0 (v := 0) dX3_leastCost_0 (by decide) ?_
  refine rw_istore_n 1 [(0, .ref 183), (1, .ref t1), (2, .ref t2), (3, .int 0)] dX3_leastCost_1 (by decide) rfl ?_
  refine wX3_leastCost_2 t1 ht1 t2 ht2 _ (fun μ3 h => ?_) FU 0 μ h
  refine rw_iconst 33 (v := 0) dX3_leastCost_33 (by decide) ?_
  refine rw_istore_n 34 [(0, .ref 183), (1, .ref t1), (2, .ref t2), (3, .int 0)] dX3_leastCost_34 (by decide) rfl ?_
  refine wX3_leastCost_35 t1 ht1 t2 ht2 _ (fun μ9 h => ?_) FU 0 μ3 h
  refine rw_aload_n 98 dX3_leastCost_98 0 rfl ?_
  refine rw_getR 99 3 1 kc3 dX3_leastCost_99 ly_183 rln_183 fX3_16 rfl rf_183_1 ?_
  refine rw_aload_n 102 dX3_leastCost_102 1 rfl ?_
  refine rw_getI 103 7 0 kc7 dX3_leastCost_103 (o7l ht1) (o7n ht1) fX3_62 rfl ?_
  refine rn_aald 106 5 (by decide) dX3_leastCost_106 ly_189 rln_189 h (fun hi10 => (rfr_189 _ (inb_lt hi10))) (fun hi10 h => ?_)
  refine rw_aload_n 107 dX3_leastCost_107 2 rfl ?_
  refine rw_aload_n 108 dX3_leastCost_108 1 rfl ?_
  refine rn_cVpi 109 5 [.ref t1] dX3_leastCost_109 caX5_alive lX3_82 inX5_alive slX5_alive rfl (o5l ht2) ⟨_, rfl, rfl⟩ (o5n ht2) naX5_alive (Nat.le_of_ble_eq_true rfl) (Nat.le_of_ble_eq_true rfl) (by decide) (fun _ hq => wX5_alive t2 ht2 t1 ht1 μ9 hq) h (fun q11 h => ?_)
  refine rn_iald 112 dX3_leastCost_112 (lyr_189 _ (inb_lt hi10)) (ltr_189 _ (inb_lt hi10)) h (fun h => ?_)
  exact rn_iret2 113 dX3_leastCost_113 rfl h
def fX10_fewest (a1 : Int32) (μ : Mem) : Option (Int32 × Mem) :=
  (fX10_isOneOfTwo a1 μ).bind fun q1 =>
  if q1 = true then
    (fX3_leastCost 199 9 μ).bind fun q2 =>
    if q2.1 < 1048576 then
      if a1 = 0 then
        some ((q2.1 / 16), q2.2)
      else
        some ((irm q2.1 16), q2.2)
    else
      some ((-2), q2.2)
  else
    some ((-1), μ)
set_option maxRecDepth 100000 in
theorem wX10_fewest (a1 : Int32) (μ : Mem) {res : Int32 × Mem} (h : fX10_fewest a1 μ = some res) : Ct mX10_fewest 4 NF NF [.ref 0, .int a1] (μ, Rf0, NF) (QN (some (.int res.1)) res.2 Rf0 NF) := by
  unfold fX10_fewest at h
  show RW mX10_fewest 4 NF NF 0 [(0, .ref 0), (1, .int a1)] [] (μ, Rf0, NF) (QN (some (.int res.1)) res.2 Rf0 NF)
  refine rw_aload_n 0 dX10_fewest_0 0 rfl ?_
  refine rw_iload_n 1 dX10_fewest_1 1 rfl ?_
  refine rn_cVpb 2 10 [.int a1] dX10_fewest_2 caX10_isOneOfTwo lX10_199 inX10_isOneOfTwo slX10_isOneOfTwo rfl ly_0 ⟨_, rfl, rfl⟩ rln_0 naX10_isOneOfTwo (Nat.le_of_ble_eq_true rfl) (Nat.le_of_ble_eq_true rfl) (by decide) (fun _ hq => wX10_isOneOfTwo a1 μ hq) h (fun q1 h => ?_)
  refine rn_ifb_ne 5 10 dX10_fewest_5 (by decide) h (fun _ h => ?_) (fun _ h => ?_)
  · refine rw_aload_n 10 dX10_fewest_10 0 rfl ?_
    refine rw_getR 11 10 7 kc10 dX10_fewest_11 ly_0 rln_0 fX10_54 rfl rf_0_7 ?_
    refine rw_aload_n 14 dX10_fewest_14 0 rfl ?_
    refine rw_getR 15 10 9 kc10 dX10_fewest_15 ly_0 rln_0 fX10_68 rfl rf_0_9 ?_
    refine rw_aload_n 18 dX10_fewest_18 0 rfl ?_
    refine rw_getR 19 10 2 kc10 dX10_fewest_19 ly_0 rln_0 fX10_26 rfl rf_0_2 ?_
    refine rn_cVmi 22 3 [.ref 199, .ref 9] dX10_fewest_22 caX3_leastCost lX10_232 inX3_leastCost slX3_leastCost rfl ly_183 ⟨_, rfl, rfl⟩ rln_183 naX3_leastCost (Nat.le_of_ble_eq_true rfl) (Nat.le_of_ble_eq_true rfl) (by decide) (fun _ hq => wX3_leastCost 199 okX7_199 9 okX5_9 μ hq) h (fun q2 h => ?_)
    refine rw_istore_n 25 [(0, .ref 0), (1, .int a1), (2, .int q2.1)] dX10_fewest_25 (by decide) rfl ?_
    refine rw_iload_n 26 dX10_fewest_26 2 rfl ?_
    refine rw_ldc 27 dX10_fewest_27 lX10_236 ?_
    refine rn_icmp_lt 29 35 dX10_fewest_29 (by decide) h (fun _ h => ?_) (fun _ h => ?_)
    · refine rw_iload_n 35 dX10_fewest_35 1 rfl ?_
      refine rn_if_ne 36 46 dX10_fewest_36 (by decide) h (fun _ h => ?_) (fun _ h => ?_)
      · refine rw_iload_n 46 dX10_fewest_46 2 rfl ?_
        refine rw_bipush 47 (v := 16) dX10_fewest_47 (by decide) ?_
        refine rw_irem 49 dX10_fewest_49 (by decide) ?_
        exact rn_iret2 50 dX10_fewest_50 rfl h
      · refine rw_iload_n 39 dX10_fewest_39 2 rfl ?_
        refine rw_bipush 40 (v := 16) dX10_fewest_40 (by decide) ?_
        refine rw_idiv 42 dX10_fewest_42 (by decide) ?_
        refine rw_goto 43 50 dX10_fewest_43 (by decide) ?_
        exact rn_iret2 50 dX10_fewest_50 rfl h
    · refine rw_bipush 32 (v := -2) dX10_fewest_32 (by decide) ?_
      exact rn_iret2 34 dX10_fewest_34 rfl h
  · refine rw_iconst 8 (v := -1) dX10_fewest_8 (by decide) ?_
    exact rn_iret2 9 dX10_fewest_9 rfl h
def fX3_fewestColours_30 (t1 : Nat)  (v2 : Int32) (v4 : Int32)  (K : Mem → Option (Int32 × Mem)) : Nat → Int32 → Mem → Option (Int32 × Mem)
  | 0, _, _ => none
  | n + 1, v5, μ =>
    if 0 < v5 then
      if inb v5 128 then
      if (μ.1 (t1 + 12) v5.toNatClampNeg) = 0 then
        nm ((v5 - 1) &&& v4) fun x3 =>
        fX3_fewestColours_30 t1 v2 v4 K n x3 μ
      else
        if inb v4 128 then
        if inb (v4 ^^^ v5) 128 then
        if inb v4 128 then nm (wI μ 190 v4.toNatClampNeg (mnI (μ.1 190 v4.toNatClampNeg) ((μ.1 190 (v4 ^^^ v5).toNatClampNeg) + 1))) fun μ4 =>
        nm ((v5 - 1) &&& v4) fun x5 =>
        fX3_fewestColours_30 t1 v2 v4 K n x5 μ4
        else none
        else none
        else none
      else none
    else
      K μ
def fX3_fewestColours_14 (t1 : Nat)  (v2 : Int32)  (K : Mem → Option (Int32 × Mem)) : Nat → Int32 → Mem → Option (Int32 × Mem)
  | 0, _, _ => none
  | n + 1, v4, μ =>
    if v2 < v4 then
      K μ
    else
      if inb v4 128 then nm (wI μ 190 v4.toNatClampNeg 7) fun μ2 =>
      fX3_fewestColours_30 t1 v2 v4 (fun μ6 =>
          fX3_fewestColours_14 t1 v2 K n (v4 + 1) μ6
      ) FU v4 μ2
      else none
def fX3_fewestColours (t1 : Nat) (a2 : Int32) (μ : Mem) : Option (Int32 × Mem) :=
  nm (wI μ 190 0 0) fun μ1 =>
  fX3_fewestColours_14 t1 a2 (fun μ7 =>
      if inb a2 128 then
      some ((μ7.1 190 a2.toNatClampNeg), μ7)
      else none
  ) FU 1 μ1
set_option maxRecDepth 100000 in
theorem wX3_fewestColours_30 (t1 : Nat) (ht1 : okX7 Rf0 NF t1)  (v2 : Int32) (v4 : Int32)  (K : Mem → Option (Int32 × Mem)) {res : Int32 × Mem} (hK : ∀  (μ : Mem), K μ = some res → RW mX3_fewestColours 1 NF NF 77 [(1, .ref t1), (2, .int v2), (3, .ref 190), (4, .int v4)] [] (μ, Rf0, NF) (QN (some (.int res.1)) res.2 Rf0 NF)) : ∀ (n9 : Nat) (v5 : Int32) (μ : Mem), fX3_fewestColours_30 t1 v2 v4 K n9 v5 μ = some res → RW mX3_fewestColours 1 NF NF 30 [(1, .ref t1), (2, .int v2), (3, .ref 190), (4, .int v4), (5, .int v5)] [] (μ, Rf0, NF) (QN (some (.int res.1)) res.2 Rf0 NF) := by
  intro n9
  induction n9 with
  | zero => intro _ _ h; cases h
  | succ n ih =>
    intro v5 μ h
    unfold fX3_fewestColours_30 at h
    refine rw_iload 30 dX3_fewestColours_30 4 rfl ?_
    refine rn_if_le 32 77 dX3_fewestColours_32 (by decide) h (fun _ h => ?_) (fun _ h => ?_)
    · refine rw_pick 77 [0, 1, 2, 3] rfl ?_
      exact hK μ h
    · refine rw_aload_n 35 dX3_fewestColours_35 0 rfl ?_
      refine rw_getR 36 7 13 kc7 dX3_fewestColours_36 (o7l ht1) (o7n ht1) fX3_39 rfl (o7r13 ht1) ?_
      refine rw_iload 39 dX3_fewestColours_39 4 rfl ?_
      refine rn_zald 41 dX3_fewestColours_41 (o7l13 ht1) (o7n13 ht1) h (fun h => ?_)
      refine rn_if_eq 42 65 dX3_fewestColours_42 (by decide) h (fun _ h => ?_) (fun _ h => ?_)
      · refine rw_iload 65 dX3_fewestColours_65 4 rfl ?_
        refine rw_iconst 67 (v := 1) dX3_fewestColours_67 (by decide) ?_
        refine rw_isub 68 dX3_fewestColours_68 ?_
        refine rw_iload 69 dX3_fewestColours_69 3 rfl ?_
        refine rw_iand 71 dX3_fewestColours_71 ?_
        refine rn_ist 72 (fun x3 => [(1, .ref t1), (2, .int v2), (3, .ref 190), (4, .int v4), (5, .int x3)]) dX3_fewestColours_72 (by decide) (fun _ => rfl) h (fun x3 h => ?_)
        refine rw_goto 74 30 dX3_fewestColours_74 (by decide) ?_
        exact ih x3 μ h
      · refine rw_aload_n 45 dX3_fewestColours_45 2 rfl ?_
        refine rw_iload 46 dX3_fewestColours_46 3 rfl ?_
        refine rw_aload_n 48 dX3_fewestColours_48 2 rfl ?_
        refine rw_iload 49 dX3_fewestColours_49 3 rfl ?_
        refine rn_iald 51 dX3_fewestColours_51 ly_190 rln_190 h (fun h => ?_)
        refine rw_aload_n 52 dX3_fewestColours_52 2 rfl ?_
        refine rw_iload 53 dX3_fewestColours_53 3 rfl ?_
        refine rw_iload 55 dX3_fewestColours_55 4 rfl ?_
        refine rw_ixor 57 dX3_fewestColours_57 ?_
        refine rn_iald 58 dX3_fewestColours_58 ly_190 rln_190 h (fun h => ?_)
        refine rw_iconst 59 (v := 1) dX3_fewestColours_59 (by decide) ?_
        refine rw_iadd 60 dX3_fewestColours_60 ?_
        refine rw_mmin 61 dX3_fewestColours_61 lX3_86 stJ9_min_7cf53 iiJ9_min_7cf53 coJ9_min_7cf53 (by decide) (Nat.le_of_ble_eq_true rfl) ?_
        refine rn_iast 64 dX3_fewestColours_64 ly_190 rln_190 h (fun μ4 h => ?_)
        refine rw_iload 65 dX3_fewestColours_65 4 rfl ?_
        refine rw_iconst 67 (v := 1) dX3_fewestColours_67 (by decide) ?_
        refine rw_isub 68 dX3_fewestColours_68 ?_
        refine rw_iload 69 dX3_fewestColours_69 3 rfl ?_
        refine rw_iand 71 dX3_fewestColours_71 ?_
        refine rn_ist 72 (fun x5 => [(1, .ref t1), (2, .int v2), (3, .ref 190), (4, .int v4), (5, .int x5)]) dX3_fewestColours_72 (by decide) (fun _ => rfl) h (fun x5 h => ?_)
        refine rw_goto 74 30 dX3_fewestColours_74 (by decide) ?_
        exact ih x5 μ4 h
set_option maxRecDepth 100000 in
theorem wX3_fewestColours_14 (t1 : Nat) (ht1 : okX7 Rf0 NF t1)  (v2 : Int32)  (K : Mem → Option (Int32 × Mem)) {res : Int32 × Mem} (hK : ∀  (μ : Mem), K μ = some res → RW mX3_fewestColours 1 NF NF 83 [(2, .int v2), (3, .ref 190)] [] (μ, Rf0, NF) (QN (some (.int res.1)) res.2 Rf0 NF)) : ∀ (n9 : Nat) (v4 : Int32) (μ : Mem), fX3_fewestColours_14 t1 v2 K n9 v4 μ = some res → RW mX3_fewestColours 1 NF NF 14 [(1, .ref t1), (2, .int v2), (3, .ref 190), (4, .int v4)] [] (μ, Rf0, NF) (QN (some (.int res.1)) res.2 Rf0 NF) := by
  intro n9
  induction n9 with
  | zero => intro _ _ h; cases h
  | succ n ih =>
    intro v4 μ h
    unfold fX3_fewestColours_14 at h
    refine rw_iload 14 dX3_fewestColours_14 3 rfl ?_
    refine rw_iload_n 16 dX3_fewestColours_16 1 rfl ?_
    refine rn_icmp_gt 17 83 dX3_fewestColours_17 (by decide) h (fun _ h => ?_) (fun _ h => ?_)
    · refine rw_pick 83 [1, 2] rfl ?_
      exact hK μ h
    · refine rw_aload_n 20 dX3_fewestColours_20 2 rfl ?_
      refine rw_iload 21 dX3_fewestColours_21 3 rfl ?_
      refine rw_bipush 23 (v := 7) dX3_fewestColours_23 (by decide) ?_
      refine rn_iast 25 dX3_fewestColours_25 ly_190 rln_190 h (fun μ2 h => ?_)
      refine rw_iload 26 dX3_fewestColours_26 3 rfl ?_
      refine rw_istore 28 [(1, .ref t1), (2, .int v2), (3, .ref 190), (4, .int v4), (5, .int v4)] dX3_fewestColours_28 (by decide) rfl ?_
      refine wX3_fewestColours_30 t1 ht1 v2 v4 _ (fun μ6 h => ?_) FU v4 μ2 h
      refine rw_iinc 77 [(1, .ref t1), (2, .int v2), (3, .ref 190), (4, .int (v4 + 1))] dX3_fewestColours_77 3 rfl rfl (by decide) rfl ?_
      refine rw_goto 80 14 dX3_fewestColours_80 (by decide) ?_
      exact ih (v4 + 1) μ6 h
set_option maxRecDepth 100000 in
theorem wX3_fewestColours (t1 : Nat) (ht1 : okX7 Rf0 NF t1) (a2 : Int32) (μ : Mem) {res : Int32 × Mem} (h : fX3_fewestColours t1 a2 μ = some res) : Ct mX3_fewestColours 1 NF NF [.ref 183, .ref t1, .int a2] (μ, Rf0, NF) (QN (some (.int res.1)) res.2 Rf0 NF) := by
  unfold fX3_fewestColours at h
  show RW mX3_fewestColours 1 NF NF 0 [(0, .ref 183), (1, .ref t1), (2, .int a2)] [] (μ, Rf0, NF) (QN (some (.int res.1)) res.2 Rf0 NF)
  refine rw_aload_n 0 dX3_fewestColours_0 0 rfl ?_
  refine rw_getR 1 3 1 kc3 dX3_fewestColours_1 ly_183 rln_183 fX3_16 rfl rf_183_1 ?_
  refine rw_iconst 4 (v := 0) dX3_fewestColours_4 (by decide) ?_
  refine rn_aaldc 5 5 (by decide) dX3_fewestColours_5 ly_189 rln_189 (by decide) (j := 0) (by decide) rf_189_0 ?_
  refine rw_astore_n 6 [(0, .ref 183), (1, .ref t1), (2, .int a2), (3, .ref 190)] dX3_fewestColours_6 (by decide) rfl ?_
  refine rw_aload_n 7 dX3_fewestColours_7 3 rfl ?_
  refine rw_iconst 8 (v := 0) dX3_fewestColours_8 (by decide) ?_
  refine rw_iconst 9 (v := 0) dX3_fewestColours_9 (by decide) ?_
  refine rn_iastc 10 dX3_fewestColours_10 ly_190 rln_190 (by decide) (j := 0) (by decide) h (fun μ1 h => ?_)
  refine rw_iconst 11 (v := 1) dX3_fewestColours_11 (by decide) ?_
  refine rw_istore 12 [(0, .ref 183), (1, .ref t1), (2, .int a2), (3, .ref 190), (4, .int 1)] dX3_fewestColours_12 (by decide) rfl ?_
  refine rw_pick 14 [1, 2, 3, 4] rfl ?_
  refine wX3_fewestColours_14 t1 ht1 a2 _ (fun μ7 h => ?_) FU 1 μ1 h
  refine rw_aload_n 83 dX3_fewestColours_83 1 rfl ?_
  refine rw_iload_n 84 dX3_fewestColours_84 0 rfl ?_
  refine rn_iald 85 dX3_fewestColours_85 ly_190 rln_190 h (fun h => ?_)
  exact rn_iret2 86 dX3_fewestColours_86 rfl h
def fX10_colours  (μ : Mem) : Option (Int32 × Mem) :=
  (fX5_alive 9 199 μ).bind fun q1 =>
  (fX3_fewestColours 199 q1 μ).bind fun q2 =>
  some (q2.1, q2.2)
set_option maxRecDepth 100000 in
theorem wX10_colours  (μ : Mem) {res : Int32 × Mem} (h : fX10_colours  μ = some res) : Ct mX10_colours 2 NF NF [.ref 0] (μ, Rf0, NF) (QN (some (.int res.1)) res.2 Rf0 NF) := by
  unfold fX10_colours at h
  show RW mX10_colours 2 NF NF 0 [(0, .ref 0)] [] (μ, Rf0, NF) (QN (some (.int res.1)) res.2 Rf0 NF)
  refine rw_aload_n 0 dX10_colours_0 0 rfl ?_
  refine rw_getR 1 10 7 kc10 dX10_colours_1 ly_0 rln_0 fX10_54 rfl rf_0_7 ?_
  refine rw_aload_n 4 dX10_colours_4 0 rfl ?_
  refine rw_getR 5 10 9 kc10 dX10_colours_5 ly_0 rln_0 fX10_68 rfl rf_0_9 ?_
  refine rw_aload_n 8 dX10_colours_8 0 rfl ?_
  refine rw_getR 9 10 2 kc10 dX10_colours_9 ly_0 rln_0 fX10_26 rfl rf_0_2 ?_
  refine rw_aload_n 12 dX10_colours_12 0 rfl ?_
  refine rw_getR 13 10 9 kc10 dX10_colours_13 ly_0 rln_0 fX10_68 rfl rf_0_9 ?_
  refine rn_cVpi 16 5 [.ref 199] dX10_colours_16 caX5_alive lX10_221 inX5_alive slX5_alive rfl ly_9 ⟨_, rfl, rfl⟩ rln_9 naX5_alive (Nat.le_of_ble_eq_true rfl) (Nat.le_of_ble_eq_true rfl) (by decide) (fun _ hq => wX5_alive 9 okX5_9 199 okX7_199 μ hq) h (fun q1 h => ?_)
  refine rn_cVmi 19 3 [.ref 199, .int q1] dX10_colours_19 caX3_fewestColours lX10_237 inX3_fewestColours slX3_fewestColours rfl ly_183 ⟨_, rfl, rfl⟩ rln_183 naX3_fewestColours (Nat.le_of_ble_eq_true rfl) (Nat.le_of_ble_eq_true rfl) (by decide) (fun _ hq => wX3_fewestColours 199 okX7_199 q1 μ hq) h (fun q2 h => ?_)
  exact rn_iret2 22 dX10_colours_22 rfl h
def fX3_isTangle_2 (t0 : Nat)  (v1 : Int32) (μ : Mem) (K : Unit → Option (Bool)) : Nat → Int32 → Option (Bool)
  | 0, _ => none
  | n + 1, v2 =>
    if v2 < (μ.1 t0 3) then
      if ((v1 >>> (v2 &&& 31)) &&& 1) = 1 then
        if inb v2 7 then
        if (v1 &&& ((μ.1 (t0 + 10) v2.toNatClampNeg) ^^^ (-1))) = ((1 : Int32) <<< (v2 &&& 31)) then
          fX3_isTangle_2 t0 v1 μ K n (v2 + 1)
        else
          some false
        else none
      else
        fX3_isTangle_2 t0 v1 μ K n (v2 + 1)
    else
      K ()
def fX3_isTangle (t0 : Nat) (a1 : Int32) (μ : Mem) : Option (Bool) :=
  fX3_isTangle_2 t0 a1 μ (fun _ =>
      some true
  ) FU 0
set_option maxRecDepth 100000 in
theorem wX3_isTangle_2 (t0 : Nat) (ht0 : okX7 Rf0 NF t0)  (v1 : Int32) (μ : Mem) (K : Unit → Option (Bool)) {res : Bool} (hK : ∀ (_ : Unit), K () = some res → RW mX3_isTangle 1 NF NF 43 [] [] (μ, Rf0, NF) (QN (some (.int (b2i res))) μ Rf0 NF)) : ∀ (n9 : Nat) (v2 : Int32), fX3_isTangle_2 t0 v1 μ K n9 v2 = some res → RW mX3_isTangle 1 NF NF 2 [(0, .ref t0), (1, .int v1), (2, .int v2)] [] (μ, Rf0, NF) (QN (some (.int (b2i res))) μ Rf0 NF) := by
  intro n9
  induction n9 with
  | zero => intro _ h; cases h
  | succ n ih =>
    intro v2 h
    unfold fX3_isTangle_2 at h
    refine rw_iload_n 2 dX3_isTangle_2 2 rfl ?_
    refine rw_aload_n 3 dX3_isTangle_3 0 rfl ?_
    refine rw_getI 4 7 3 kc7 dX3_isTangle_4 (o7l ht0) (o7n ht0) fX3_27 rfl ?_
    refine rn_icmp_ge 7 43 dX3_isTangle_7 (by decide) h (fun _ h => ?_) (fun _ h => ?_)
    · refine rw_pick 43 [] rfl ?_
      exact hK () h
    · refine rw_iload_n 10 dX3_isTangle_10 1 rfl ?_
      refine rw_iload_n 11 dX3_isTangle_11 2 rfl ?_
      refine rw_ishr 12 dX3_isTangle_12 ?_
      refine rw_iconst 13 (v := 1) dX3_isTangle_13 (by decide) ?_
      refine rw_iand 14 dX3_isTangle_14 ?_
      refine rw_iconst 15 (v := 1) dX3_isTangle_15 (by decide) ?_
      refine rn_icmp_ne 16 37 dX3_isTangle_16 (by decide) h (fun _ h => ?_) (fun _ h => ?_)
      · refine rw_iinc 37 [(0, .ref t0), (1, .int v1), (2, .int (v2 + 1))] dX3_isTangle_37 2 rfl rfl (by decide) rfl ?_
        refine rw_goto 40 2 dX3_isTangle_40 (by decide) ?_
        exact ih (v2 + 1) h
      · refine rw_iload_n 19 dX3_isTangle_19 1 rfl ?_
        refine rw_aload_n 20 dX3_isTangle_20 0 rfl ?_
        refine rw_getR 21 7 11 kc7 dX3_isTangle_21 (o7l ht0) (o7n ht0) fX3_96 rfl (o7r11 ht0) ?_
        refine rw_iload_n 24 dX3_isTangle_24 2 rfl ?_
        refine rn_iald 25 dX3_isTangle_25 (o7l11 ht0) (o7n11 ht0) h (fun h => ?_)
        refine rw_iconst 26 (v := -1) dX3_isTangle_26 (by decide) ?_
        refine rw_ixor 27 dX3_isTangle_27 ?_
        refine rw_iand 28 dX3_isTangle_28 ?_
        refine rw_iconst 29 (v := 1) dX3_isTangle_29 (by decide) ?_
        refine rw_iload_n 30 dX3_isTangle_30 2 rfl ?_
        refine rw_ishl 31 dX3_isTangle_31 ?_
        refine rn_icmp_eq 32 37 dX3_isTangle_32 (by decide) h (fun _ h => ?_) (fun _ h => ?_)
        · refine rw_iinc 37 [(0, .ref t0), (1, .int v1), (2, .int (v2 + 1))] dX3_isTangle_37 2 rfl rfl (by decide) rfl ?_
          refine rw_goto 40 2 dX3_isTangle_40 (by decide) ?_
          exact ih (v2 + 1) h
        · refine rw_iconst 35 (v := 0) dX3_isTangle_35 (by decide) ?_
          exact rn_zret 36 (v := false) dX3_isTangle_36 rfl h
set_option maxRecDepth 100000 in
theorem wX3_isTangle (t0 : Nat) (ht0 : okX7 Rf0 NF t0) (a1 : Int32) (μ : Mem) {res : Bool} (h : fX3_isTangle t0 a1 μ = some res) : Ct mX3_isTangle 1 NF NF [.ref t0, .int a1] (μ, Rf0, NF) (QN (some (.int (b2i res))) μ Rf0 NF) := by
  unfold fX3_isTangle at h
  show RW mX3_isTangle 1 NF NF 0 [(0, .ref t0), (1, .int a1)] [] (μ, Rf0, NF) (QN (some (.int (b2i res))) μ Rf0 NF)
  refine rw_iconst 0 (v := 0) dX3_isTangle_0 (by decide) ?_
  refine rw_istore_n 1 [(0, .ref t0), (1, .int a1), (2, .int 0)] dX3_isTangle_1 (by decide) rfl ?_
  refine wX3_isTangle_2 t0 ht0 a1 μ _ (fun _ h => ?_) FU 0 h
  refine rw_iconst 43 (v := 1) dX3_isTangle_43 (by decide) ?_
  exact rn_zret 44 (v := true) dX3_isTangle_44 rfl h
def fX3_largestTangle_5 (t1 : Nat)  (v2 : Int32) (μ : Mem) (K : Int32 → Option (Int32)) : Nat → Int32 → Int32 → Option (Int32)
  | 0, _, _ => none
  | n + 1, v3, v4 =>
    if v2 < v4 then
      K v3
    else
      if (v4 &&& (v2 ^^^ (-1))) = 0 then
        (fJ6_bitCount_0f7a4 v4 μ).bind fun q1 =>
        (fJ6_bitCount_0f7a4 v3 μ).bind fun q2 =>
        if q2 < q1 then
          (fX3_isTangle t1 v4 μ).bind fun q3 =>
          if q3 = true then
            fX3_largestTangle_5 t1 v2 μ K n v4 (v4 + 1)
          else
            fX3_largestTangle_5 t1 v2 μ K n v3 (v4 + 1)
        else
          fX3_largestTangle_5 t1 v2 μ K n v3 (v4 + 1)
      else
        fX3_largestTangle_5 t1 v2 μ K n v3 (v4 + 1)
def fX3_largestTangle (t1 : Nat) (a2 : Int32) (μ : Mem) : Option (Int32) :=
  fX3_largestTangle_5 t1 a2 μ (fun y4 =>
      some y4
  ) FU 0 1
set_option maxRecDepth 100000 in
theorem wX3_largestTangle_5 (t1 : Nat) (ht1 : okX7 Rf0 NF t1)  (v2 : Int32) (μ : Mem) (K : Int32 → Option (Int32)) {res : Int32} (hK : ∀ (v3 : Int32), K v3 = some res → RW mX3_largestTangle 2 NF NF 50 [(3, .int v3)] [] (μ, Rf0, NF) (QN (some (.int res)) μ Rf0 NF)) : ∀ (n9 : Nat) (v3 : Int32) (v4 : Int32), fX3_largestTangle_5 t1 v2 μ K n9 v3 v4 = some res → RW mX3_largestTangle 2 NF NF 5 [(1, .ref t1), (2, .int v2), (3, .int v3), (4, .int v4)] [] (μ, Rf0, NF) (QN (some (.int res)) μ Rf0 NF) := by
  intro n9
  induction n9 with
  | zero => intro _ _ h; cases h
  | succ n ih =>
    intro v3 v4 h
    unfold fX3_largestTangle_5 at h
    refine rw_iload 5 dX3_largestTangle_5 3 rfl ?_
    refine rw_iload_n 7 dX3_largestTangle_7 1 rfl ?_
    refine rn_icmp_gt 8 50 dX3_largestTangle_8 (by decide) h (fun _ h => ?_) (fun _ h => ?_)
    · refine rw_pick 50 [2] rfl ?_
      exact hK v3 h
    · refine rw_iload 11 dX3_largestTangle_11 3 rfl ?_
      refine rw_iload_n 13 dX3_largestTangle_13 1 rfl ?_
      refine rw_iconst 14 (v := -1) dX3_largestTangle_14 (by decide) ?_
      refine rw_ixor 15 dX3_largestTangle_15 ?_
      refine rw_iand 16 dX3_largestTangle_16 ?_
      refine rn_if_ne 17 44 dX3_largestTangle_17 (by decide) h (fun _ h => ?_) (fun _ h => ?_)
      · refine rw_iinc 44 [(1, .ref t1), (2, .int v2), (3, .int v3), (4, .int (v4 + 1))] dX3_largestTangle_44 3 rfl rfl (by decide) rfl ?_
        refine rw_goto 47 5 dX3_largestTangle_47 (by decide) ?_
        exact ih v3 (v4 + 1) h
      · refine rw_iload 20 dX3_largestTangle_20 3 rfl ?_
        refine rn_cSpi 22 [.int v4] dX3_largestTangle_22 caJ6_bitCount_0f7a4 lX3_89 stJ6_bitCount_0f7a4 rfl naJ6_bitCount_0f7a4 (Nat.le_of_ble_eq_true rfl) (Nat.le_of_ble_eq_true rfl) (by decide) (fun _ hq => wJ6_bitCount_0f7a4 v4 μ hq) h (fun q1 h => ?_)
        refine rw_iload_n 25 dX3_largestTangle_25 2 rfl ?_
        refine rn_cSpi 26 [.int v3] dX3_largestTangle_26 caJ6_bitCount_0f7a4 lX3_89 stJ6_bitCount_0f7a4 rfl naJ6_bitCount_0f7a4 (Nat.le_of_ble_eq_true rfl) (Nat.le_of_ble_eq_true rfl) (by decide) (fun _ hq => wJ6_bitCount_0f7a4 v3 μ hq) h (fun q2 h => ?_)
        refine rn_icmp_le 29 44 dX3_largestTangle_29 (by decide) h (fun _ h => ?_) (fun _ h => ?_)
        · refine rw_iinc 44 [(1, .ref t1), (2, .int v2), (3, .int v3), (4, .int (v4 + 1))] dX3_largestTangle_44 3 rfl rfl (by decide) rfl ?_
          refine rw_goto 47 5 dX3_largestTangle_47 (by decide) ?_
          exact ih v3 (v4 + 1) h
        · refine rw_aload_n 32 dX3_largestTangle_32 0 rfl ?_
          refine rw_iload 33 dX3_largestTangle_33 3 rfl ?_
          refine rn_cSpb 35 [.ref t1, .int v4] dX3_largestTangle_35 caX3_isTangle lX3_92 stX3_isTangle rfl naX3_isTangle (Nat.le_of_ble_eq_true rfl) (Nat.le_of_ble_eq_true rfl) (by decide) (fun _ hq => wX3_isTangle t1 ht1 v4 μ hq) h (fun q3 h => ?_)
          refine rn_ifb_eq 38 44 dX3_largestTangle_38 (by decide) h (fun _ h => ?_) (fun _ h => ?_)
          · refine rw_iinc 44 [(1, .ref t1), (2, .int v2), (3, .int v3), (4, .int (v4 + 1))] dX3_largestTangle_44 3 rfl rfl (by decide) rfl ?_
            refine rw_goto 47 5 dX3_largestTangle_47 (by decide) ?_
            exact ih v3 (v4 + 1) h
          · refine rw_iload 41 dX3_largestTangle_41 3 rfl ?_
            refine rw_istore_n 43 [(1, .ref t1), (2, .int v2), (3, .int v4), (4, .int v4)] dX3_largestTangle_43 (by decide) rfl ?_
            refine rw_iinc 44 [(1, .ref t1), (2, .int v2), (3, .int v4), (4, .int (v4 + 1))] dX3_largestTangle_44 3 rfl rfl (by decide) rfl ?_
            refine rw_goto 47 5 dX3_largestTangle_47 (by decide) ?_
            exact ih v4 (v4 + 1) h
set_option maxRecDepth 100000 in
theorem wX3_largestTangle (t1 : Nat) (ht1 : okX7 Rf0 NF t1) (a2 : Int32) (μ : Mem) {res : Int32} (h : fX3_largestTangle t1 a2 μ = some res) : Ct mX3_largestTangle 2 NF NF [.ref 183, .ref t1, .int a2] (μ, Rf0, NF) (QN (some (.int res)) μ Rf0 NF) := by
  unfold fX3_largestTangle at h
  show RW mX3_largestTangle 2 NF NF 0 [(0, .ref 183), (1, .ref t1), (2, .int a2)] [] (μ, Rf0, NF) (QN (some (.int res)) μ Rf0 NF)
  refine rw_iconst 0 (v := 0) dX3_largestTangle_0 (by decide) ?_
  refine rw_istore_n 1 [(0, .ref 183), (1, .ref t1), (2, .int a2), (3, .int 0)] dX3_largestTangle_1 (by decide) rfl ?_
  refine rw_iconst 2 (v := 1) dX3_largestTangle_2 (by decide) ?_
  refine rw_istore 3 [(0, .ref 183), (1, .ref t1), (2, .int a2), (3, .int 0), (4, .int 1)] dX3_largestTangle_3 (by decide) rfl ?_
  refine rw_pick 5 [1, 2, 3, 4] rfl ?_
  refine wX3_largestTangle_5 t1 ht1 a2 μ _ (fun y4 h => ?_) FU 0 1 h
  refine rw_iload_n 50 dX3_largestTangle_50 0 rfl ?_
  exact rn_iret 51 dX3_largestTangle_51 rfl h
def fX10_tangle (a1 : Int32) (μ : Mem) : Option (Int32) :=
  (fX10_isOneOfTwo a1 μ).bind fun q1 =>
  if q1 = true then
    (fX5_alive 9 199 μ).bind fun q2 =>
    (fX3_largestTangle 199 q2 μ).bind fun q3 =>
    if a1 = 0 then
      (fJ6_bitCount_0f7a4 q3 μ).bind fun q4 =>
      some q4
    else
      some q3
  else
    some (-1)
set_option maxRecDepth 100000 in
theorem wX10_tangle (a1 : Int32) (μ : Mem) {res : Int32} (h : fX10_tangle a1 μ = some res) : Ct mX10_tangle 3 NF NF [.ref 0, .int a1] (μ, Rf0, NF) (QN (some (.int res)) μ Rf0 NF) := by
  unfold fX10_tangle at h
  show RW mX10_tangle 3 NF NF 0 [(0, .ref 0), (1, .int a1)] [] (μ, Rf0, NF) (QN (some (.int res)) μ Rf0 NF)
  refine rw_aload_n 0 dX10_tangle_0 0 rfl ?_
  refine rw_iload_n 1 dX10_tangle_1 1 rfl ?_
  refine rn_cVpb 2 10 [.int a1] dX10_tangle_2 caX10_isOneOfTwo lX10_199 inX10_isOneOfTwo slX10_isOneOfTwo rfl ly_0 ⟨_, rfl, rfl⟩ rln_0 naX10_isOneOfTwo (Nat.le_of_ble_eq_true rfl) (Nat.le_of_ble_eq_true rfl) (by decide) (fun _ hq => wX10_isOneOfTwo a1 μ hq) h (fun q1 h => ?_)
  refine rn_ifb_ne 5 10 dX10_tangle_5 (by decide) h (fun _ h => ?_) (fun _ h => ?_)
  · refine rw_aload_n 10 dX10_tangle_10 0 rfl ?_
    refine rw_getR 11 10 7 kc10 dX10_tangle_11 ly_0 rln_0 fX10_54 rfl rf_0_7 ?_
    refine rw_aload_n 14 dX10_tangle_14 0 rfl ?_
    refine rw_getR 15 10 9 kc10 dX10_tangle_15 ly_0 rln_0 fX10_68 rfl rf_0_9 ?_
    refine rw_aload_n 18 dX10_tangle_18 0 rfl ?_
    refine rw_getR 19 10 2 kc10 dX10_tangle_19 ly_0 rln_0 fX10_26 rfl rf_0_2 ?_
    refine rw_aload_n 22 dX10_tangle_22 0 rfl ?_
    refine rw_getR 23 10 9 kc10 dX10_tangle_23 ly_0 rln_0 fX10_68 rfl rf_0_9 ?_
    refine rn_cVpi 26 5 [.ref 199] dX10_tangle_26 caX5_alive lX10_221 inX5_alive slX5_alive rfl ly_9 ⟨_, rfl, rfl⟩ rln_9 naX5_alive (Nat.le_of_ble_eq_true rfl) (Nat.le_of_ble_eq_true rfl) (by decide) (fun _ hq => wX5_alive 9 okX5_9 199 okX7_199 μ hq) h (fun q2 h => ?_)
    refine rn_cVpi 29 3 [.ref 199, .int q2] dX10_tangle_29 caX3_largestTangle lX10_240 inX3_largestTangle slX3_largestTangle rfl ly_183 ⟨_, rfl, rfl⟩ rln_183 naX3_largestTangle (Nat.le_of_ble_eq_true rfl) (Nat.le_of_ble_eq_true rfl) (by decide) (fun _ hq => wX3_largestTangle 199 okX7_199 q2 μ hq) h (fun q3 h => ?_)
    refine rw_istore_n 32 [(0, .ref 0), (1, .int a1), (2, .int q3)] dX10_tangle_32 (by decide) rfl ?_
    refine rw_iload_n 33 dX10_tangle_33 1 rfl ?_
    refine rn_if_ne 34 44 dX10_tangle_34 (by decide) h (fun _ h => ?_) (fun _ h => ?_)
    · refine rw_iload_n 44 dX10_tangle_44 2 rfl ?_
      exact rn_iret 45 dX10_tangle_45 rfl h
    · refine rw_iload_n 37 dX10_tangle_37 2 rfl ?_
      refine rn_cSpi 38 [.int q3] dX10_tangle_38 caJ6_bitCount_0f7a4 lX10_243 stJ6_bitCount_0f7a4 rfl naJ6_bitCount_0f7a4 (Nat.le_of_ble_eq_true rfl) (Nat.le_of_ble_eq_true rfl) (by decide) (fun _ hq => wJ6_bitCount_0f7a4 q3 μ hq) h (fun q4 h => ?_)
      refine rw_goto 41 45 dX10_tangle_41 (by decide) ?_
      exact rn_iret 45 dX10_tangle_45 rfl h
  · refine rw_iconst 8 (v := -1) dX10_tangle_8 (by decide) ?_
    exact rn_iret 9 dX10_tangle_9 rfl h
def fX10_sundaysFitting_4   (v1 : Int32) (μ : Mem) (K : Int32 → Option (Int32)) : Nat → Int32 → Int32 → Option (Int32)
  | 0, _, _ => none
  | n + 1, v2, v3 =>
    if v3 < (μ.1 199 0) then
      (fX5_isSold 9 v3 μ).bind fun q1 =>
      if q1 = true then
        fX10_sundaysFitting_4 v1 μ K n v2 (v3 + 1)
      else
        (fX7_isLongEnough 199 v3 v1 μ).bind fun q2 =>
        if q2 = true then
          nm (v2 ||| ((1 : Int32) <<< (v3 &&& 31))) fun x3 =>
          fX10_sundaysFitting_4 v1 μ K n x3 (v3 + 1)
        else
          fX10_sundaysFitting_4 v1 μ K n v2 (v3 + 1)
    else
      K v2
def fX10_sundaysFitting (a1 : Int32) (μ : Mem) : Option (Int32) :=
  fX10_sundaysFitting_4 a1 μ (fun y4 =>
      some y4
  ) FU 0 0
set_option maxRecDepth 100000 in
theorem wX10_sundaysFitting_4   (v1 : Int32) (μ : Mem) (K : Int32 → Option (Int32)) {res : Int32} (hK : ∀ (v2 : Int32), K v2 = some res → RW mX10_sundaysFitting 2 NF NF 50 [(2, .int v2)] [] (μ, Rf0, NF) (QN (some (.int res)) μ Rf0 NF)) : ∀ (n9 : Nat) (v2 : Int32) (v3 : Int32), fX10_sundaysFitting_4 v1 μ K n9 v2 v3 = some res → RW mX10_sundaysFitting 2 NF NF 4 [(0, .ref 0), (1, .int v1), (2, .int v2), (3, .int v3)] [] (μ, Rf0, NF) (QN (some (.int res)) μ Rf0 NF) := by
  intro n9
  induction n9 with
  | zero => intro _ _ h; cases h
  | succ n ih =>
    intro v2 v3 h
    unfold fX10_sundaysFitting_4 at h
    refine rw_iload_n 4 dX10_sundaysFitting_4 3 rfl ?_
    refine rw_aload_n 5 dX10_sundaysFitting_5 0 rfl ?_
    refine rw_getR 6 10 9 kc10 dX10_sundaysFitting_6 ly_0 rln_0 fX10_68 rfl rf_0_9 ?_
    refine rw_getI 9 7 0 kc7 dX10_sundaysFitting_9 ly_199 rln_199 fX10_214 rfl ?_
    refine rn_icmp_ge 12 50 dX10_sundaysFitting_12 (by decide) h (fun _ h => ?_) (fun _ h => ?_)
    · refine rw_pick 50 [2] rfl ?_
      exact hK v2 h
    · refine rw_aload_n 15 dX10_sundaysFitting_15 0 rfl ?_
      refine rw_getR 16 10 2 kc10 dX10_sundaysFitting_16 ly_0 rln_0 fX10_26 rfl rf_0_2 ?_
      refine rw_iload_n 19 dX10_sundaysFitting_19 3 rfl ?_
      refine rn_cVpb 20 5 [.int v3] dX10_sundaysFitting_20 caX5_isSold lX10_120 inX5_isSold slX5_isSold rfl ly_9 ⟨_, rfl, rfl⟩ rln_9 naX5_isSold (Nat.le_of_ble_eq_true rfl) (Nat.le_of_ble_eq_true rfl) (by decide) (fun _ hq => wX5_isSold 9 okX5_9 v3 μ hq) h (fun q1 h => ?_)
      refine rn_ifb_ne 23 44 dX10_sundaysFitting_23 (by decide) h (fun _ h => ?_) (fun _ h => ?_)
      · refine rw_iinc 44 [(0, .ref 0), (1, .int v1), (2, .int v2), (3, .int (v3 + 1))] dX10_sundaysFitting_44 3 rfl rfl (by decide) rfl ?_
        refine rw_goto 47 4 dX10_sundaysFitting_47 (by decide) ?_
        exact ih v2 (v3 + 1) h
      · refine rw_aload_n 26 dX10_sundaysFitting_26 0 rfl ?_
        refine rw_getR 27 10 9 kc10 dX10_sundaysFitting_27 ly_0 rln_0 fX10_68 rfl rf_0_9 ?_
        refine rw_iload_n 30 dX10_sundaysFitting_30 3 rfl ?_
        refine rw_iload_n 31 dX10_sundaysFitting_31 1 rfl ?_
        refine rn_cVpb 32 7 [.int v3, .int v1] dX10_sundaysFitting_32 caX7_isLongEnough lX10_317 inX7_isLongEnough slX7_isLongEnough rfl ly_199 ⟨_, rfl, rfl⟩ rln_199 naX7_isLongEnough (Nat.le_of_ble_eq_true rfl) (Nat.le_of_ble_eq_true rfl) (by decide) (fun _ hq => wX7_isLongEnough 199 okX7_199 v3 v1 μ hq) h (fun q2 h => ?_)
        refine rn_ifb_eq 35 44 dX10_sundaysFitting_35 (by decide) h (fun _ h => ?_) (fun _ h => ?_)
        · refine rw_iinc 44 [(0, .ref 0), (1, .int v1), (2, .int v2), (3, .int (v3 + 1))] dX10_sundaysFitting_44 3 rfl rfl (by decide) rfl ?_
          refine rw_goto 47 4 dX10_sundaysFitting_47 (by decide) ?_
          exact ih v2 (v3 + 1) h
        · refine rw_iload_n 38 dX10_sundaysFitting_38 2 rfl ?_
          refine rw_iconst 39 (v := 1) dX10_sundaysFitting_39 (by decide) ?_
          refine rw_iload_n 40 dX10_sundaysFitting_40 3 rfl ?_
          refine rw_ishl 41 dX10_sundaysFitting_41 ?_
          refine rw_ior 42 dX10_sundaysFitting_42 ?_
          refine rn_ist_n 43 (fun x3 => [(0, .ref 0), (1, .int v1), (2, .int x3), (3, .int v3)]) dX10_sundaysFitting_43 (by decide) (fun _ => rfl) h (fun x3 h => ?_)
          refine rw_iinc 44 [(0, .ref 0), (1, .int v1), (2, .int x3), (3, .int (v3 + 1))] dX10_sundaysFitting_44 3 rfl rfl (by decide) rfl ?_
          refine rw_goto 47 4 dX10_sundaysFitting_47 (by decide) ?_
          exact ih x3 (v3 + 1) h
set_option maxRecDepth 100000 in
theorem wX10_sundaysFitting (a1 : Int32) (μ : Mem) {res : Int32} (h : fX10_sundaysFitting a1 μ = some res) : Ct mX10_sundaysFitting 2 NF NF [.ref 0, .int a1] (μ, Rf0, NF) (QN (some (.int res)) μ Rf0 NF) := by
  unfold fX10_sundaysFitting at h
  show RW mX10_sundaysFitting 2 NF NF 0 [(0, .ref 0), (1, .int a1)] [] (μ, Rf0, NF) (QN (some (.int res)) μ Rf0 NF)
  refine rw_iconst 0 (v := 0) dX10_sundaysFitting_0 (by decide) ?_
  refine rw_istore_n 1 [(0, .ref 0), (1, .int a1), (2, .int 0)] dX10_sundaysFitting_1 (by decide) rfl ?_
  refine rw_iconst 2 (v := 0) dX10_sundaysFitting_2 (by decide) ?_
  refine rw_istore_n 3 [(0, .ref 0), (1, .int a1), (2, .int 0), (3, .int 0)] dX10_sundaysFitting_3 (by decide) rfl ?_
  refine wX10_sundaysFitting_4 a1 μ _ (fun y4 h => ?_) FU 0 0 h
  refine rw_iload_n 50 dX10_sundaysFitting_50 0 rfl ?_
  exact rn_iret 51 dX10_sundaysFitting_51 rfl h
def fX10_fitting (a1 : Int32) (μ : Mem) : Option (Int32) :=
  (fX10_isGuest a1 μ).bind fun q1 =>
  if q1 = true then
    (fX10_sundaysFitting a1 μ).bind fun q2 =>
    some q2
  else
    some (-1)
set_option maxRecDepth 100000 in
theorem wX10_fitting (a1 : Int32) (μ : Mem) {res : Int32} (h : fX10_fitting a1 μ = some res) : Ct mX10_fitting 3 NF NF [.ref 0, .int a1] (μ, Rf0, NF) (QN (some (.int res)) μ Rf0 NF) := by
  unfold fX10_fitting at h
  show RW mX10_fitting 3 NF NF 0 [(0, .ref 0), (1, .int a1)] [] (μ, Rf0, NF) (QN (some (.int res)) μ Rf0 NF)
  refine rw_aload_n 0 dX10_fitting_0 0 rfl ?_
  refine rw_iload_n 1 dX10_fitting_1 1 rfl ?_
  refine rn_cVpb 2 10 [.int a1] dX10_fitting_2 caX10_isGuest lX10_130 inX10_isGuest slX10_isGuest rfl ly_0 ⟨_, rfl, rfl⟩ rln_0 naX10_isGuest (Nat.le_of_ble_eq_true rfl) (Nat.le_of_ble_eq_true rfl) (by decide) (fun _ hq => wX10_isGuest a1 μ hq) h (fun q1 h => ?_)
  refine rn_ifb_eq 5 16 dX10_fitting_5 (by decide) h (fun _ h => ?_) (fun _ h => ?_)
  · refine rw_iconst 16 (v := -1) dX10_fitting_16 (by decide) ?_
    exact rn_iret 17 dX10_fitting_17 rfl h
  · refine rw_aload_n 8 dX10_fitting_8 0 rfl ?_
    refine rw_iload_n 9 dX10_fitting_9 1 rfl ?_
    refine rn_cVpi 10 10 [.int a1] dX10_fitting_10 caX10_sundaysFitting lX10_248 inX10_sundaysFitting slX10_sundaysFitting rfl ly_0 ⟨_, rfl, rfl⟩ rln_0 naX10_sundaysFitting (Nat.le_of_ble_eq_true rfl) (Nat.le_of_ble_eq_true rfl) (by decide) (fun _ hq => wX10_sundaysFitting a1 μ hq) h (fun q2 h => ?_)
    refine rw_goto 13 17 dX10_fitting_13 (by decide) ?_
    exact rn_iret 17 dX10_fitting_17 rfl h
def fX10_earlierOnes_5   (v1 : Int32) (v2 : Int32) (μ : Mem) (K : Int32 → Option (Int32)) : Nat → Int32 → Int32 → Option (Int32)
  | 0, _, _ => none
  | n + 1, v3, v4 =>
    if v4 < (μ.1 199 3) then
      (fX5_isIn 9 v4 v2 μ).bind fun q1 =>
      if q1 = true then
        if inb v4 7 then
        if inb v1 7 then
        if (μ.1 202 v4.toNatClampNeg) < (μ.1 202 v1.toNatClampNeg) then
          fX10_earlierOnes_5 v1 v2 μ K n (v3 + 1) (v4 + 1)
        else
          fX10_earlierOnes_5 v1 v2 μ K n v3 (v4 + 1)
        else none
        else none
      else
        fX10_earlierOnes_5 v1 v2 μ K n v3 (v4 + 1)
    else
      K v3
def fX10_earlierOnes (a1 : Int32) (a2 : Int32) (μ : Mem) : Option (Int32) :=
  fX10_earlierOnes_5 a1 a2 μ (fun y2 =>
      some y2
  ) FU 0 0
set_option maxRecDepth 100000 in
theorem wX10_earlierOnes_5   (v1 : Int32) (v2 : Int32) (μ : Mem) (K : Int32 → Option (Int32)) {res : Int32} (hK : ∀ (v3 : Int32), K v3 = some res → RW mX10_earlierOnes 2 NF NF 61 [(3, .int v3)] [] (μ, Rf0, NF) (QN (some (.int res)) μ Rf0 NF)) : ∀ (n9 : Nat) (v3 : Int32) (v4 : Int32), fX10_earlierOnes_5 v1 v2 μ K n9 v3 v4 = some res → RW mX10_earlierOnes 2 NF NF 5 [(0, .ref 0), (1, .int v1), (2, .int v2), (3, .int v3), (4, .int v4)] [] (μ, Rf0, NF) (QN (some (.int res)) μ Rf0 NF) := by
  intro n9
  induction n9 with
  | zero => intro _ _ h; cases h
  | succ n ih =>
    intro v3 v4 h
    unfold fX10_earlierOnes_5 at h
    refine rw_iload 5 dX10_earlierOnes_5 4 rfl ?_
    refine rw_aload_n 7 dX10_earlierOnes_7 0 rfl ?_
    refine rw_getR 8 10 9 kc10 dX10_earlierOnes_8 ly_0 rln_0 fX10_68 rfl rf_0_9 ?_
    refine rw_getI 11 7 3 kc7 dX10_earlierOnes_11 ly_199 rln_199 fX10_155 rfl ?_
    refine rn_icmp_ge 14 61 dX10_earlierOnes_14 (by decide) h (fun _ h => ?_) (fun _ h => ?_)
    · refine rw_pick 61 [3] rfl ?_
      exact hK v3 h
    · refine rw_aload_n 17 dX10_earlierOnes_17 0 rfl ?_
      refine rw_getR 18 10 2 kc10 dX10_earlierOnes_18 ly_0 rln_0 fX10_26 rfl rf_0_2 ?_
      refine rw_iload 21 dX10_earlierOnes_21 4 rfl ?_
      refine rw_iload_n 23 dX10_earlierOnes_23 2 rfl ?_
      refine rn_cVpb 24 5 [.int v4, .int v2] dX10_earlierOnes_24 caX5_isIn lX10_158 inX5_isIn slX5_isIn rfl ly_9 ⟨_, rfl, rfl⟩ rln_9 naX5_isIn (Nat.le_of_ble_eq_true rfl) (Nat.le_of_ble_eq_true rfl) (by decide) (fun _ hq => wX5_isIn 9 okX5_9 v4 v2 μ hq) h (fun q1 h => ?_)
      refine rn_ifb_eq 27 55 dX10_earlierOnes_27 (by decide) h (fun _ h => ?_) (fun _ h => ?_)
      · refine rw_iinc 55 [(0, .ref 0), (1, .int v1), (2, .int v2), (3, .int v3), (4, .int (v4 + 1))] dX10_earlierOnes_55 4 rfl rfl (by decide) rfl ?_
        refine rw_goto 58 5 dX10_earlierOnes_58 (by decide) ?_
        exact ih v3 (v4 + 1) h
      · refine rw_aload_n 30 dX10_earlierOnes_30 0 rfl ?_
        refine rw_getR 31 10 9 kc10 dX10_earlierOnes_31 ly_0 rln_0 fX10_68 rfl rf_0_9 ?_
        refine rw_getR 34 7 4 kc7 dX10_earlierOnes_34 ly_199 rln_199 fX10_133 rfl rf_199_4 ?_
        refine rw_iload 37 dX10_earlierOnes_37 4 rfl ?_
        refine rn_iald 39 dX10_earlierOnes_39 ly_202 rln_202 h (fun h => ?_)
        refine rw_aload_n 40 dX10_earlierOnes_40 0 rfl ?_
        refine rw_getR 41 10 9 kc10 dX10_earlierOnes_41 ly_0 rln_0 fX10_68 rfl rf_0_9 ?_
        refine rw_getR 44 7 4 kc7 dX10_earlierOnes_44 ly_199 rln_199 fX10_133 rfl rf_199_4 ?_
        refine rw_iload_n 47 dX10_earlierOnes_47 1 rfl ?_
        refine rn_iald 48 dX10_earlierOnes_48 ly_202 rln_202 h (fun h => ?_)
        refine rn_icmp_ge 49 55 dX10_earlierOnes_49 (by decide) h (fun _ h => ?_) (fun _ h => ?_)
        · refine rw_iinc 55 [(0, .ref 0), (1, .int v1), (2, .int v2), (3, .int v3), (4, .int (v4 + 1))] dX10_earlierOnes_55 4 rfl rfl (by decide) rfl ?_
          refine rw_goto 58 5 dX10_earlierOnes_58 (by decide) ?_
          exact ih v3 (v4 + 1) h
        · refine rw_iinc 52 [(0, .ref 0), (1, .int v1), (2, .int v2), (3, .int (v3 + 1)), (4, .int v4)] dX10_earlierOnes_52 3 rfl rfl (by decide) rfl ?_
          refine rw_iinc 55 [(0, .ref 0), (1, .int v1), (2, .int v2), (3, .int (v3 + 1)), (4, .int (v4 + 1))] dX10_earlierOnes_55 4 rfl rfl (by decide) rfl ?_
          refine rw_goto 58 5 dX10_earlierOnes_58 (by decide) ?_
          exact ih (v3 + 1) (v4 + 1) h
set_option maxRecDepth 100000 in
theorem wX10_earlierOnes (a1 : Int32) (a2 : Int32) (μ : Mem) {res : Int32} (h : fX10_earlierOnes a1 a2 μ = some res) : Ct mX10_earlierOnes 2 NF NF [.ref 0, .int a1, .int a2] (μ, Rf0, NF) (QN (some (.int res)) μ Rf0 NF) := by
  unfold fX10_earlierOnes at h
  show RW mX10_earlierOnes 2 NF NF 0 [(0, .ref 0), (1, .int a1), (2, .int a2)] [] (μ, Rf0, NF) (QN (some (.int res)) μ Rf0 NF)
  refine rw_iconst 0 (v := 0) dX10_earlierOnes_0 (by decide) ?_
  refine rw_istore_n 1 [(0, .ref 0), (1, .int a1), (2, .int a2), (3, .int 0)] dX10_earlierOnes_1 (by decide) rfl ?_
  refine rw_iconst 2 (v := 0) dX10_earlierOnes_2 (by decide) ?_
  refine rw_istore 3 [(0, .ref 0), (1, .int a1), (2, .int a2), (3, .int 0), (4, .int 0)] dX10_earlierOnes_3 (by decide) rfl ?_
  refine wX10_earlierOnes_5 a1 a2 μ _ (fun y2 h => ?_) FU 0 0 h
  refine rw_iload_n 61 dX10_earlierOnes_61 0 rfl ?_
  exact rn_iret 62 dX10_earlierOnes_62 rfl h
def fX10_row_12   (v1 : Int32) (v2 : Int32) (μ : Mem) (K : Unit → Option (Int32)) : Nat → Int32 → Option (Int32)
  | 0, _ => none
  | n + 1, v3 =>
    if v3 < (μ.1 199 3) then
      (fX5_isIn 9 v3 v1 μ).bind fun q2 =>
      if q2 = true then
        (fX10_earlierOnes v3 v1 μ).bind fun q3 =>
        if q3 = v2 then
          some v3
        else
          fX10_row_12 v1 v2 μ K n (v3 + 1)
      else
        fX10_row_12 v1 v2 μ K n (v3 + 1)
    else
      K ()
def fX10_row (a1 : Int32) (a2 : Int32) (μ : Mem) : Option (Int32) :=
  (fX10_isSunday a1 μ).bind fun q1 =>
  if q1 = true then
    fX10_row_12 a1 a2 μ (fun _ =>
        some (-1)
    ) FU 0
  else
    some (-1)
set_option maxRecDepth 100000 in
theorem wX10_row_12   (v1 : Int32) (v2 : Int32) (μ : Mem) (K : Unit → Option (Int32)) {res : Int32} (hK : ∀ (_ : Unit), K () = some res → RW mX10_row 3 NF NF 53 [] [] (μ, Rf0, NF) (QN (some (.int res)) μ Rf0 NF)) : ∀ (n9 : Nat) (v3 : Int32), fX10_row_12 v1 v2 μ K n9 v3 = some res → RW mX10_row 3 NF NF 12 [(0, .ref 0), (1, .int v1), (2, .int v2), (3, .int v3)] [] (μ, Rf0, NF) (QN (some (.int res)) μ Rf0 NF) := by
  intro n9
  induction n9 with
  | zero => intro _ h; cases h
  | succ n ih =>
    intro v3 h
    unfold fX10_row_12 at h
    refine rw_iload_n 12 dX10_row_12 3 rfl ?_
    refine rw_aload_n 13 dX10_row_13 0 rfl ?_
    refine rw_getR 14 10 9 kc10 dX10_row_14 ly_0 rln_0 fX10_68 rfl rf_0_9 ?_
    refine rw_getI 17 7 3 kc7 dX10_row_17 ly_199 rln_199 fX10_155 rfl ?_
    refine rn_icmp_ge 20 53 dX10_row_20 (by decide) h (fun _ h => ?_) (fun _ h => ?_)
    · refine rw_pick 53 [] rfl ?_
      exact hK () h
    · refine rw_aload_n 23 dX10_row_23 0 rfl ?_
      refine rw_getR 24 10 2 kc10 dX10_row_24 ly_0 rln_0 fX10_26 rfl rf_0_2 ?_
      refine rw_iload_n 27 dX10_row_27 3 rfl ?_
      refine rw_iload_n 28 dX10_row_28 1 rfl ?_
      refine rn_cVpb 29 5 [.int v3, .int v1] dX10_row_29 caX5_isIn lX10_158 inX5_isIn slX5_isIn rfl ly_9 ⟨_, rfl, rfl⟩ rln_9 naX5_isIn (Nat.le_of_ble_eq_true rfl) (Nat.le_of_ble_eq_true rfl) (by decide) (fun _ hq => wX5_isIn 9 okX5_9 v3 v1 μ hq) h (fun q2 h => ?_)
      refine rn_ifb_eq 32 47 dX10_row_32 (by decide) h (fun _ h => ?_) (fun _ h => ?_)
      · refine rw_iinc 47 [(0, .ref 0), (1, .int v1), (2, .int v2), (3, .int (v3 + 1))] dX10_row_47 3 rfl rfl (by decide) rfl ?_
        refine rw_goto 50 12 dX10_row_50 (by decide) ?_
        exact ih (v3 + 1) h
      · refine rw_aload_n 35 dX10_row_35 0 rfl ?_
        refine rw_iload_n 36 dX10_row_36 3 rfl ?_
        refine rw_iload_n 37 dX10_row_37 1 rfl ?_
        refine rn_cVpi 38 10 [.int v3, .int v1] dX10_row_38 caX10_earlierOnes lX10_251 inX10_earlierOnes slX10_earlierOnes rfl ly_0 ⟨_, rfl, rfl⟩ rln_0 naX10_earlierOnes (Nat.le_of_ble_eq_true rfl) (Nat.le_of_ble_eq_true rfl) (by decide) (fun _ hq => wX10_earlierOnes v3 v1 μ hq) h (fun q3 h => ?_)
        refine rw_iload_n 41 dX10_row_41 2 rfl ?_
        refine rn_icmp_ne 42 47 dX10_row_42 (by decide) h (fun _ h => ?_) (fun _ h => ?_)
        · refine rw_iinc 47 [(0, .ref 0), (1, .int v1), (2, .int v2), (3, .int (v3 + 1))] dX10_row_47 3 rfl rfl (by decide) rfl ?_
          refine rw_goto 50 12 dX10_row_50 (by decide) ?_
          exact ih (v3 + 1) h
        · refine rw_iload_n 45 dX10_row_45 3 rfl ?_
          exact rn_iret 46 dX10_row_46 rfl h
set_option maxRecDepth 100000 in
theorem wX10_row (a1 : Int32) (a2 : Int32) (μ : Mem) {res : Int32} (h : fX10_row a1 a2 μ = some res) : Ct mX10_row 3 NF NF [.ref 0, .int a1, .int a2] (μ, Rf0, NF) (QN (some (.int res)) μ Rf0 NF) := by
  unfold fX10_row at h
  show RW mX10_row 3 NF NF 0 [(0, .ref 0), (1, .int a1), (2, .int a2)] [] (μ, Rf0, NF) (QN (some (.int res)) μ Rf0 NF)
  refine rw_aload_n 0 dX10_row_0 0 rfl ?_
  refine rw_iload_n 1 dX10_row_1 1 rfl ?_
  refine rn_cVpb 2 10 [.int a1] dX10_row_2 caX10_isSunday lX10_107 inX10_isSunday slX10_isSunday rfl ly_0 ⟨_, rfl, rfl⟩ rln_0 naX10_isSunday (Nat.le_of_ble_eq_true rfl) (Nat.le_of_ble_eq_true rfl) (by decide) (fun _ hq => wX10_isSunday a1 μ hq) h (fun q1 h => ?_)
  refine rn_ifb_ne 5 10 dX10_row_5 (by decide) h (fun _ h => ?_) (fun _ h => ?_)
  · refine rw_iconst 10 (v := 0) dX10_row_10 (by decide) ?_
    refine rw_istore_n 11 [(0, .ref 0), (1, .int a1), (2, .int a2), (3, .int 0)] dX10_row_11 (by decide) rfl ?_
    refine wX10_row_12 a1 a2 μ _ (fun _ h => ?_) FU 0 h
    refine rw_iconst 53 (v := -1) dX10_row_53 (by decide) ?_
    exact rn_iret 54 dX10_row_54 rfl h
  · refine rw_iconst 8 (v := -1) dX10_row_8 (by decide) ?_
    exact rn_iret 9 dX10_row_9 rfl h
def fX10_change (a1 : Int32) (a2 : Int32) (μ : Mem) : Option (Int32) :=
  (fX10_isGuest a1 μ).bind fun q1 =>
  if q1 = true then
    (fX10_isGuest a2 μ).bind fun q2 =>
    if q2 = true then
      (fX5_whereIs 9 a1 μ).bind fun q3 =>
      (fX5_whereIs 9 a2 μ).bind fun q4 =>
      if q3 = (-2) then
        some (-1)
      else
        if q4 = (-2) then
          some (-1)
        else
          if q3 = q4 then
            some (-1)
          else
            (fX10_couldGoIn a1 q4 ((1 : Int32) <<< (a2 &&& 31)) μ).bind fun q5 =>
            if q5 = true then
              (fX10_couldGoIn a2 q3 ((1 : Int32) <<< (a1 &&& 31)) μ).bind fun q6 =>
              if q6 = true then
                some 1
              else
                some 0
            else
              some 0
    else
      some (-1)
  else
    some (-1)
set_option maxRecDepth 100000 in
theorem wX10_change (a1 : Int32) (a2 : Int32) (μ : Mem) {res : Int32} (h : fX10_change a1 a2 μ = some res) : Ct mX10_change 3 NF NF [.ref 0, .int a1, .int a2] (μ, Rf0, NF) (QN (some (.int res)) μ Rf0 NF) := by
  unfold fX10_change at h
  show RW mX10_change 3 NF NF 0 [(0, .ref 0), (1, .int a1), (2, .int a2)] [] (μ, Rf0, NF) (QN (some (.int res)) μ Rf0 NF)
  refine rw_aload_n 0 dX10_change_0 0 rfl ?_
  refine rw_iload_n 1 dX10_change_1 1 rfl ?_
  refine rn_cVpb 2 10 [.int a1] dX10_change_2 caX10_isGuest lX10_130 inX10_isGuest slX10_isGuest rfl ly_0 ⟨_, rfl, rfl⟩ rln_0 naX10_isGuest (Nat.le_of_ble_eq_true rfl) (Nat.le_of_ble_eq_true rfl) (by decide) (fun _ hq => wX10_isGuest a1 μ hq) h (fun q1 h => ?_)
  refine rn_ifb_eq 5 16 dX10_change_5 (by decide) h (fun _ h => ?_) (fun _ h => ?_)
  · refine rw_iconst 16 (v := -1) dX10_change_16 (by decide) ?_
    exact rn_iret 17 dX10_change_17 rfl h
  · refine rw_aload_n 8 dX10_change_8 0 rfl ?_
    refine rw_iload_n 9 dX10_change_9 2 rfl ?_
    refine rn_cVpb 10 10 [.int a2] dX10_change_10 caX10_isGuest lX10_130 inX10_isGuest slX10_isGuest rfl ly_0 ⟨_, rfl, rfl⟩ rln_0 naX10_isGuest (Nat.le_of_ble_eq_true rfl) (Nat.le_of_ble_eq_true rfl) (by decide) (fun _ hq => wX10_isGuest a2 μ hq) h (fun q2 h => ?_)
    refine rn_ifb_ne 13 18 dX10_change_13 (by decide) h (fun _ h => ?_) (fun _ h => ?_)
    · refine rw_aload_n 18 dX10_change_18 0 rfl ?_
      refine rw_getR 19 10 2 kc10 dX10_change_19 ly_0 rln_0 fX10_26 rfl rf_0_2 ?_
      refine rw_iload_n 22 dX10_change_22 1 rfl ?_
      refine rn_cVpi 23 5 [.int a1] dX10_change_23 caX5_whereIs lX10_142 inX5_whereIs slX5_whereIs rfl ly_9 ⟨_, rfl, rfl⟩ rln_9 naX5_whereIs (Nat.le_of_ble_eq_true rfl) (Nat.le_of_ble_eq_true rfl) (by decide) (fun _ hq => wX5_whereIs 9 okX5_9 a1 μ hq) h (fun q3 h => ?_)
      refine rw_istore_n 26 [(0, .ref 0), (1, .int a1), (2, .int a2), (3, .int q3)] dX10_change_26 (by decide) rfl ?_
      refine rw_aload_n 27 dX10_change_27 0 rfl ?_
      refine rw_getR 28 10 2 kc10 dX10_change_28 ly_0 rln_0 fX10_26 rfl rf_0_2 ?_
      refine rw_iload_n 31 dX10_change_31 2 rfl ?_
      refine rn_cVpi 32 5 [.int a2] dX10_change_32 caX5_whereIs lX10_142 inX5_whereIs slX5_whereIs rfl ly_9 ⟨_, rfl, rfl⟩ rln_9 naX5_whereIs (Nat.le_of_ble_eq_true rfl) (Nat.le_of_ble_eq_true rfl) (by decide) (fun _ hq => wX5_whereIs 9 okX5_9 a2 μ hq) h (fun q4 h => ?_)
      refine rw_istore 35 [(0, .ref 0), (1, .int a1), (2, .int a2), (3, .int q3), (4, .int q4)] dX10_change_35 (by decide) rfl ?_
      refine rw_iload_n 37 dX10_change_37 3 rfl ?_
      refine rw_bipush 38 (v := -2) dX10_change_38 (by decide) ?_
      refine rn_icmp_eq 40 56 dX10_change_40 (by decide) h (fun _ h => ?_) (fun _ h => ?_)
      · refine rw_iconst 56 (v := -1) dX10_change_56 (by decide) ?_
        exact rn_iret 57 dX10_change_57 rfl h
      · refine rw_iload 43 dX10_change_43 4 rfl ?_
        refine rw_bipush 45 (v := -2) dX10_change_45 (by decide) ?_
        refine rn_icmp_eq 47 56 dX10_change_47 (by decide) h (fun _ h => ?_) (fun _ h => ?_)
        · refine rw_iconst 56 (v := -1) dX10_change_56 (by decide) ?_
          exact rn_iret 57 dX10_change_57 rfl h
        · refine rw_iload_n 50 dX10_change_50 3 rfl ?_
          refine rw_iload 51 dX10_change_51 4 rfl ?_
          refine rn_icmp_ne 53 58 dX10_change_53 (by decide) h (fun _ h => ?_) (fun _ h => ?_)
          · refine rw_aload_n 58 dX10_change_58 0 rfl ?_
            refine rw_iload_n 59 dX10_change_59 1 rfl ?_
            refine rw_iload 60 dX10_change_60 4 rfl ?_
            refine rw_iconst 62 (v := 1) dX10_change_62 (by decide) ?_
            refine rw_iload_n 63 dX10_change_63 2 rfl ?_
            refine rw_ishl 64 dX10_change_64 ?_
            refine rn_cVpb 65 10 [.int a1, .int q4, .int ((1 : Int32) <<< (a2 &&& 31))] dX10_change_65 caX10_couldGoIn lX10_165 inX10_couldGoIn slX10_couldGoIn rfl ly_0 ⟨_, rfl, rfl⟩ rln_0 naX10_couldGoIn (Nat.le_of_ble_eq_true rfl) (Nat.le_of_ble_eq_true rfl) (by decide) (fun _ hq => wX10_couldGoIn a1 q4 ((1 : Int32) <<< (a2 &&& 31)) μ hq) h (fun q5 h => ?_)
            refine rn_ifb_eq 68 87 dX10_change_68 (by decide) h (fun _ h => ?_) (fun _ h => ?_)
            · refine rw_iconst 87 (v := 0) dX10_change_87 (by decide) ?_
              exact rn_iret 88 dX10_change_88 rfl h
            · refine rw_aload_n 71 dX10_change_71 0 rfl ?_
              refine rw_iload_n 72 dX10_change_72 2 rfl ?_
              refine rw_iload_n 73 dX10_change_73 3 rfl ?_
              refine rw_iconst 74 (v := 1) dX10_change_74 (by decide) ?_
              refine rw_iload_n 75 dX10_change_75 1 rfl ?_
              refine rw_ishl 76 dX10_change_76 ?_
              refine rn_cVpb 77 10 [.int a2, .int q3, .int ((1 : Int32) <<< (a1 &&& 31))] dX10_change_77 caX10_couldGoIn lX10_165 inX10_couldGoIn slX10_couldGoIn rfl ly_0 ⟨_, rfl, rfl⟩ rln_0 naX10_couldGoIn (Nat.le_of_ble_eq_true rfl) (Nat.le_of_ble_eq_true rfl) (by decide) (fun _ hq => wX10_couldGoIn a2 q3 ((1 : Int32) <<< (a1 &&& 31)) μ hq) h (fun q6 h => ?_)
              refine rn_ifb_eq 80 87 dX10_change_80 (by decide) h (fun _ h => ?_) (fun _ h => ?_)
              · refine rw_iconst 87 (v := 0) dX10_change_87 (by decide) ?_
                exact rn_iret 88 dX10_change_88 rfl h
              · refine rw_iconst 83 (v := 1) dX10_change_83 (by decide) ?_
                refine rw_goto 84 88 dX10_change_84 (by decide) ?_
                exact rn_iret 88 dX10_change_88 rfl h
          · refine rw_iconst 56 (v := -1) dX10_change_56 (by decide) ?_
            exact rn_iret 57 dX10_change_57 rfl h
    · refine rw_iconst 16 (v := -1) dX10_change_16 (by decide) ?_
      exact rn_iret 17 dX10_change_17 rfl h
def fX10_payer_19   (v1 : Int32)  (K : Int32 → Int32 → Mem → Option (Int32 × Mem)) : Nat → Int32 → Int32 → Int32 → Mem → Option (Int32 × Mem)
  | 0, _, _, _, _ => none
  | n + 1, v2, v3, v4, μ =>
    if v4 < (μ.1 199 3) then
      (fX5_whereIs 9 v4 μ).bind fun q2 =>
      if q2 = (-2) then
        fX10_payer_19 v1 K n v2 v3 (v4 + 1) μ
      else
        (fX1_ofGuestNow 0 199 9 v4 μ).bind fun q3 =>
        if v3 < q3.1 then
          fX10_payer_19 v1 K n v4 q3.1 (v4 + 1) q3.2
        else
          fX10_payer_19 v1 K n v2 v3 (v4 + 1) q3.2
    else
      K v2 v3 μ
def fX10_payer (a1 : Int32) (μ : Mem) : Option (Int32 × Mem) :=
  (fX10_isOneOfTwo a1 μ).bind fun q1 =>
  if q1 = true then
    fX10_payer_19 a1 (fun y4 y5 μ6 =>
        if a1 = 0 then
          some (y4, μ6)
        else
          some (y5, μ6)
    ) FU (-2) (-2) 0 μ
  else
    some ((-1), μ)
set_option maxRecDepth 100000 in
theorem wX10_payer_19   (v1 : Int32)  (K : Int32 → Int32 → Mem → Option (Int32 × Mem)) {res : Int32 × Mem} (hK : ∀ (v2 : Int32) (v3 : Int32) (μ : Mem), K v2 v3 μ = some res → RW mX10_payer 6 NF NF 83 [(1, .int v1), (2, .int v2), (3, .int v3)] [] (μ, Rf0, NF) (QN (some (.int res.1)) res.2 Rf0 NF)) : ∀ (n9 : Nat) (v2 : Int32) (v3 : Int32) (v4 : Int32) (μ : Mem), fX10_payer_19 v1 K n9 v2 v3 v4 μ = some res → RW mX10_payer 6 NF NF 19 [(0, .ref 0), (1, .int v1), (2, .int v2), (3, .int v3), (4, .int v4)] [] (μ, Rf0, NF) (QN (some (.int res.1)) res.2 Rf0 NF) := by
  intro n9
  induction n9 with
  | zero => intro _ _ _ _ h; cases h
  | succ n ih =>
    intro v2 v3 v4 μ h
    unfold fX10_payer_19 at h
    refine rw_iload 19 dX10_payer_19 4 rfl ?_
    refine rw_aload_n 21 dX10_payer_21 0 rfl ?_
    refine rw_getR 22 10 9 kc10 dX10_payer_22 ly_0 rln_0 fX10_68 rfl rf_0_9 ?_
    refine rw_getI 25 7 3 kc7 dX10_payer_25 ly_199 rln_199 fX10_155 rfl ?_
    refine rn_icmp_ge 28 83 dX10_payer_28 (by decide) h (fun _ h => ?_) (fun _ h => ?_)
    · refine rw_pick 83 [1, 2, 3] rfl ?_
      exact hK v2 v3 μ h
    · refine rw_aload_n 31 dX10_payer_31 0 rfl ?_
      refine rw_getR 32 10 2 kc10 dX10_payer_32 ly_0 rln_0 fX10_26 rfl rf_0_2 ?_
      refine rw_iload 35 dX10_payer_35 4 rfl ?_
      refine rn_cVpi 37 5 [.int v4] dX10_payer_37 caX5_whereIs lX10_142 inX5_whereIs slX5_whereIs rfl ly_9 ⟨_, rfl, rfl⟩ rln_9 naX5_whereIs (Nat.le_of_ble_eq_true rfl) (Nat.le_of_ble_eq_true rfl) (by decide) (fun _ hq => wX5_whereIs 9 okX5_9 v4 μ hq) h (fun q2 h => ?_)
      refine rw_bipush 40 (v := -2) dX10_payer_40 (by decide) ?_
      refine rn_icmp_eq 42 77 dX10_payer_42 (by decide) h (fun _ h => ?_) (fun _ h => ?_)
      · refine rw_iinc 77 [(0, .ref 0), (1, .int v1), (2, .int v2), (3, .int v3), (4, .int (v4 + 1))] dX10_payer_77 4 rfl rfl (by decide) rfl ?_
        refine rw_goto 80 19 dX10_payer_80 (by decide) ?_
        exact ih v2 v3 (v4 + 1) μ h
      · refine rw_aload_n 45 dX10_payer_45 0 rfl ?_
        refine rw_getR 46 10 6 kc10 dX10_payer_46 ly_0 rln_0 fX10_47 rfl rf_0_6 ?_
        refine rw_iconst 49 (v := 0) dX10_payer_49 (by decide) ?_
        refine rw_aload_n 50 dX10_payer_50 0 rfl ?_
        refine rw_getR 51 10 9 kc10 dX10_payer_51 ly_0 rln_0 fX10_68 rfl rf_0_9 ?_
        refine rw_aload_n 54 dX10_payer_54 0 rfl ?_
        refine rw_getR 55 10 2 kc10 dX10_payer_55 ly_0 rln_0 fX10_26 rfl rf_0_2 ?_
        refine rw_iload 58 dX10_payer_58 4 rfl ?_
        refine rn_cVmi 60 1 [.int 0, .ref 199, .ref 9, .int v4] dX10_payer_60 caX1_ofGuestNow lX10_152 inX1_ofGuestNow slX1_ofGuestNow rfl ly_180 ⟨_, rfl, rfl⟩ rln_180 naX1_ofGuestNow (Nat.le_of_ble_eq_true rfl) (Nat.le_of_ble_eq_true rfl) (by decide) (fun _ hq => wX1_ofGuestNow 0 199 okX7_199 9 okX5_9 v4 μ hq) h (fun q3 h => ?_)
        refine rw_istore 63 [(0, .ref 0), (1, .int v1), (2, .int v2), (3, .int v3), (4, .int v4), (5, .int q3.1)] dX10_payer_63 (by decide) rfl ?_
        refine rw_iload 65 dX10_payer_65 5 rfl ?_
        refine rw_iload_n 67 dX10_payer_67 3 rfl ?_
        refine rn_icmp_le 68 77 dX10_payer_68 (by decide) h (fun _ h => ?_) (fun _ h => ?_)
        · refine rw_iinc 77 [(0, .ref 0), (1, .int v1), (2, .int v2), (3, .int v3), (4, .int (v4 + 1)), (5, .int q3.1)] dX10_payer_77 4 rfl rfl (by decide) rfl ?_
          refine rw_goto 80 19 dX10_payer_80 (by decide) ?_
          refine rw_pick 19 [0, 1, 2, 3, 4] rfl ?_
          exact ih v2 v3 (v4 + 1) q3.2 h
        · refine rw_iload 71 dX10_payer_71 5 rfl ?_
          refine rw_istore_n 73 [(0, .ref 0), (1, .int v1), (2, .int v2), (3, .int q3.1), (4, .int v4), (5, .int q3.1)] dX10_payer_73 (by decide) rfl ?_
          refine rw_iload 74 dX10_payer_74 4 rfl ?_
          refine rw_istore_n 76 [(0, .ref 0), (1, .int v1), (2, .int v4), (3, .int q3.1), (4, .int v4), (5, .int q3.1)] dX10_payer_76 (by decide) rfl ?_
          refine rw_iinc 77 [(0, .ref 0), (1, .int v1), (2, .int v4), (3, .int q3.1), (4, .int (v4 + 1)), (5, .int q3.1)] dX10_payer_77 4 rfl rfl (by decide) rfl ?_
          refine rw_goto 80 19 dX10_payer_80 (by decide) ?_
          refine rw_pick 19 [0, 1, 2, 3, 4] rfl ?_
          exact ih v4 q3.1 (v4 + 1) q3.2 h
set_option maxRecDepth 100000 in
theorem wX10_payer (a1 : Int32) (μ : Mem) {res : Int32 × Mem} (h : fX10_payer a1 μ = some res) : Ct mX10_payer 6 NF NF [.ref 0, .int a1] (μ, Rf0, NF) (QN (some (.int res.1)) res.2 Rf0 NF) := by
  unfold fX10_payer at h
  show RW mX10_payer 6 NF NF 0 [(0, .ref 0), (1, .int a1)] [] (μ, Rf0, NF) (QN (some (.int res.1)) res.2 Rf0 NF)
  refine rw_aload_n 0 dX10_payer_0 0 rfl ?_
  refine rw_iload_n 1 dX10_payer_1 1 rfl ?_
  refine rn_cVpb 2 10 [.int a1] dX10_payer_2 caX10_isOneOfTwo lX10_199 inX10_isOneOfTwo slX10_isOneOfTwo rfl ly_0 ⟨_, rfl, rfl⟩ rln_0 naX10_isOneOfTwo (Nat.le_of_ble_eq_true rfl) (Nat.le_of_ble_eq_true rfl) (by decide) (fun _ hq => wX10_isOneOfTwo a1 μ hq) h (fun q1 h => ?_)
  refine rn_ifb_ne 5 10 dX10_payer_5 (by decide) h (fun _ h => ?_) (fun _ h => ?_)
  · refine rw_bipush 10 (v := -2) dX10_payer_10 (by decide) ?_
    refine rw_istore_n 12 [(0, .ref 0), (1, .int a1), (2, .int (-2))] dX10_payer_12 (by decide) rfl ?_
    refine rw_bipush 13 (v := -2) dX10_payer_13 (by decide) ?_
    refine rw_istore_n 15 [(0, .ref 0), (1, .int a1), (2, .int (-2)), (3, .int (-2))] dX10_payer_15 (by decide) rfl ?_
    refine rw_iconst 16 (v := 0) dX10_payer_16 (by decide) ?_
    refine rw_istore 17 [(0, .ref 0), (1, .int a1), (2, .int (-2)), (3, .int (-2)), (4, .int 0)] dX10_payer_17 (by decide) rfl ?_
    refine wX10_payer_19 a1 _ (fun y4 y5 μ6 h => ?_) FU (-2) (-2) 0 μ h
    refine rw_iload_n 83 dX10_payer_83 0 rfl ?_
    refine rn_if_ne 84 91 dX10_payer_84 (by decide) h (fun _ h => ?_) (fun _ h => ?_)
    · refine rw_iload_n 91 dX10_payer_91 2 rfl ?_
      exact rn_iret2 92 dX10_payer_92 rfl h
    · refine rw_iload_n 87 dX10_payer_87 1 rfl ?_
      refine rw_goto 88 92 dX10_payer_88 (by decide) ?_
      exact rn_iret2 92 dX10_payer_92 rfl h
  · refine rw_iconst 8 (v := -1) dX10_payer_8 (by decide) ?_
    exact rn_iret2 9 dX10_payer_9 rfl h
def fX10_idle_4    (μ : Mem) (K : Int32 → Option (Int32)) : Nat → Int32 → Int32 → Option (Int32)
  | 0, _, _ => none
  | n + 1, v1, v2 =>
    if v2 < (μ.1 199 0) then
      (fX5_isSold 9 v2 μ).bind fun q1 =>
      if q1 = true then
        fX10_idle_4 μ K n v1 (v2 + 1)
      else
        if inb v2 4 then
        if inb v2 4 then
        (fX7_hoursOf 199 (μ.1 10 v2.toNatClampNeg) μ).bind fun q2 =>
        nm (v1 + ((μ.1 200 v2.toNatClampNeg) - q2)) fun x3 =>
        fX10_idle_4 μ K n x3 (v2 + 1)
        else none
        else none
    else
      K v1
def fX10_idle  (μ : Mem) : Option (Int32) :=
  fX10_idle_4 μ (fun y4 =>
      some y4
  ) FU 0 0
set_option maxRecDepth 100000 in
theorem wX10_idle_4    (μ : Mem) (K : Int32 → Option (Int32)) {res : Int32} (hK : ∀ (v1 : Int32), K v1 = some res → RW mX10_idle 3 NF NF 61 [(1, .int v1)] [] (μ, Rf0, NF) (QN (some (.int res)) μ Rf0 NF)) : ∀ (n9 : Nat) (v1 : Int32) (v2 : Int32), fX10_idle_4 μ K n9 v1 v2 = some res → RW mX10_idle 3 NF NF 4 [(0, .ref 0), (1, .int v1), (2, .int v2)] [] (μ, Rf0, NF) (QN (some (.int res)) μ Rf0 NF) := by
  intro n9
  induction n9 with
  | zero => intro _ _ h; cases h
  | succ n ih =>
    intro v1 v2 h
    unfold fX10_idle_4 at h
    refine rw_iload_n 4 dX10_idle_4 2 rfl ?_
    refine rw_aload_n 5 dX10_idle_5 0 rfl ?_
    refine rw_getR 6 10 9 kc10 dX10_idle_6 ly_0 rln_0 fX10_68 rfl rf_0_9 ?_
    refine rw_getI 9 7 0 kc7 dX10_idle_9 ly_199 rln_199 fX10_214 rfl ?_
    refine rn_icmp_ge 12 61 dX10_idle_12 (by decide) h (fun _ h => ?_) (fun _ h => ?_)
    · refine rw_pick 61 [1] rfl ?_
      exact hK v1 h
    · refine rw_aload_n 15 dX10_idle_15 0 rfl ?_
      refine rw_getR 16 10 2 kc10 dX10_idle_16 ly_0 rln_0 fX10_26 rfl rf_0_2 ?_
      refine rw_iload_n 19 dX10_idle_19 2 rfl ?_
      refine rn_cVpb 20 5 [.int v2] dX10_idle_20 caX5_isSold lX10_120 inX5_isSold slX5_isSold rfl ly_9 ⟨_, rfl, rfl⟩ rln_9 naX5_isSold (Nat.le_of_ble_eq_true rfl) (Nat.le_of_ble_eq_true rfl) (by decide) (fun _ hq => wX5_isSold 9 okX5_9 v2 μ hq) h (fun q1 h => ?_)
      refine rn_ifb_ne 23 55 dX10_idle_23 (by decide) h (fun _ h => ?_) (fun _ h => ?_)
      · refine rw_iinc 55 [(0, .ref 0), (1, .int v1), (2, .int (v2 + 1))] dX10_idle_55 2 rfl rfl (by decide) rfl ?_
        refine rw_goto 58 4 dX10_idle_58 (by decide) ?_
        exact ih v1 (v2 + 1) h
      · refine rw_iload_n 26 dX10_idle_26 1 rfl ?_
        refine rw_aload_n 27 dX10_idle_27 0 rfl ?_
        refine rw_getR 28 10 9 kc10 dX10_idle_28 ly_0 rln_0 fX10_68 rfl rf_0_9 ?_
        refine rw_getR 31 7 1 kc7 dX10_idle_31 ly_199 rln_199 fX10_110 rfl rf_199_1 ?_
        refine rw_iload_n 34 dX10_idle_34 2 rfl ?_
        refine rn_iald 35 dX10_idle_35 ly_200 rln_200 h (fun h => ?_)
        refine rw_aload_n 36 dX10_idle_36 0 rfl ?_
        refine rw_getR 37 10 9 kc10 dX10_idle_37 ly_0 rln_0 fX10_68 rfl rf_0_9 ?_
        refine rw_aload_n 40 dX10_idle_40 0 rfl ?_
        refine rw_getR 41 10 2 kc10 dX10_idle_41 ly_0 rln_0 fX10_26 rfl rf_0_2 ?_
        refine rw_getR 44 5 4 kc5 dX10_idle_44 ly_9 rln_9 fX10_123 rfl rf_9_4 ?_
        refine rw_iload_n 47 dX10_idle_47 2 rfl ?_
        refine rn_iald 48 dX10_idle_48 ly_10 rln_10 h (fun h => ?_)
        refine rn_cVpi 49 7 [.int (μ.1 10 v2.toNatClampNeg)] dX10_idle_49 caX7_hoursOf lX10_255 inX7_hoursOf slX7_hoursOf rfl ly_199 ⟨_, rfl, rfl⟩ rln_199 naX7_hoursOf (Nat.le_of_ble_eq_true rfl) (Nat.le_of_ble_eq_true rfl) (by decide) (fun _ hq => wX7_hoursOf 199 okX7_199 (μ.1 10 v2.toNatClampNeg) μ hq) h (fun q2 h => ?_)
        refine rw_isub 52 dX10_idle_52 ?_
        refine rw_iadd 53 dX10_idle_53 ?_
        refine rn_ist_n 54 (fun x3 => [(0, .ref 0), (1, .int x3), (2, .int v2)]) dX10_idle_54 (by decide) (fun _ => rfl) h (fun x3 h => ?_)
        refine rw_iinc 55 [(0, .ref 0), (1, .int x3), (2, .int (v2 + 1))] dX10_idle_55 2 rfl rfl (by decide) rfl ?_
        refine rw_goto 58 4 dX10_idle_58 (by decide) ?_
        exact ih x3 (v2 + 1) h
set_option maxRecDepth 100000 in
theorem wX10_idle  (μ : Mem) {res : Int32} (h : fX10_idle  μ = some res) : Ct mX10_idle 3 NF NF [.ref 0] (μ, Rf0, NF) (QN (some (.int res)) μ Rf0 NF) := by
  unfold fX10_idle at h
  show RW mX10_idle 3 NF NF 0 [(0, .ref 0)] [] (μ, Rf0, NF) (QN (some (.int res)) μ Rf0 NF)
  refine rw_iconst 0 (v := 0) dX10_idle_0 (by decide) ?_
  refine rw_istore_n 1 [(0, .ref 0), (1, .int 0)] dX10_idle_1 (by decide) rfl ?_
  refine rw_iconst 2 (v := 0) dX10_idle_2 (by decide) ?_
  refine rw_istore_n 3 [(0, .ref 0), (1, .int 0), (2, .int 0)] dX10_idle_3 (by decide) rfl ?_
  refine wX10_idle_4 μ _ (fun y4 h => ?_) FU 0 0 h
  refine rw_iload_n 61 dX10_idle_61 0 rfl ?_
  exact rn_iret 62 dX10_idle_62 rfl h
def fX1_passWeek (t1 : Nat) (t2 : Nat) (μ : Mem) : Option (Mem) :=
  (fX1_payAndRest t1 t2 μ).bind fun q1 =>
  (fX1_wear t1 t2 q1).bind fun q2 =>
  nm (wI q2 t2 0 ((q2.1 t2 0) + 1)) fun μ3 =>
  some μ3
set_option maxRecDepth 100000 in
theorem wX1_passWeek (t1 : Nat) (ht1 : okX7 Rf0 NF t1) (t2 : Nat) (ht2 : okX5 Rf0 NF t2) (μ : Mem) {res : Mem} (h : fX1_passWeek t1 t2 μ = some res) : Ct mX1_passWeek 6 NF NF [.ref 180, .ref t1, .ref t2] (μ, Rf0, NF) (QN none res Rf0 NF) := by
  unfold fX1_passWeek at h
  show RW mX1_passWeek 6 NF NF 0 [(0, .ref 180), (1, .ref t1), (2, .ref t2)] [] (μ, Rf0, NF) (QN none res Rf0 NF)
  refine rw_aload_n 0 dX1_passWeek_0 0 rfl ?_
  refine rw_aload_n 1 dX1_passWeek_1 1 rfl ?_
  refine rw_aload_n 2 dX1_passWeek_2 2 rfl ?_
  refine rn_cVmv 3 1 [.ref t1, .ref t2] dX1_passWeek_3 caX1_payAndRest lX1_90 inX1_payAndRest slX1_payAndRest rfl ly_180 ⟨_, rfl, rfl⟩ rln_180 naX1_payAndRest (Nat.le_of_ble_eq_true rfl) (Nat.le_of_ble_eq_true rfl) (by decide) (fun _ hq => wX1_payAndRest t1 ht1 t2 ht2 μ hq) h (fun q1 h => ?_)
  refine rw_aload_n 6 dX1_passWeek_6 0 rfl ?_
  refine rw_aload_n 7 dX1_passWeek_7 1 rfl ?_
  refine rw_aload_n 8 dX1_passWeek_8 2 rfl ?_
  refine rn_cVmv 9 1 [.ref t1, .ref t2] dX1_passWeek_9 caX1_wear lX1_94 inX1_wear slX1_wear rfl ly_180 ⟨_, rfl, rfl⟩ rln_180 naX1_wear (Nat.le_of_ble_eq_true rfl) (Nat.le_of_ble_eq_true rfl) (by decide) (fun _ hq => wX1_wear t1 ht1 t2 ht2 q1 hq) h (fun q2 h => ?_)
  refine rw_aload_n 12 dX1_passWeek_12 2 rfl ?_
  refine rw_dup 13 dX1_passWeek_13 rfl ?_
  refine rw_getI 14 5 0 kc5 dX1_passWeek_14 (o5l ht2) (o5n ht2) fX1_73 rfl ?_
  refine rw_iconst 17 (v := 1) dX1_passWeek_17 (by decide) ?_
  refine rw_iadd 18 dX1_passWeek_18 ?_
  refine rn_putI 19 5 0 kc5 dX1_passWeek_19 (o5l ht2) (o5n ht2) fX1_73 (fun q hq => by cases hq; rfl) rfl rfl rfl h (fun μ3 h => ?_)
  exact rn_vret 22 dX1_passWeek_22 rfl h
def fX10_used_34   (v1 : Int32) (v2 : Int32)  (K : Mem → Option (Int32 × Mem)) : Nat → Int32 → Mem → Option (Int32 × Mem)
  | 0, _, _ => none
  | n + 1, v3, μ =>
    if 100 < v3 then
      K μ
    else
      if inb v1 4 then
      if (μ.1 15 v1.toNatClampNeg) < v2 then
        (fX1_passWeek 199 13 μ).bind fun q3 =>
        fX10_used_34 v1 v2 K n (v3 + 1) q3
      else
        some (v3, μ)
      else none
def fX10_used (a1 : Int32) (a2 : Int32) (μ : Mem) : Option (Int32 × Mem) :=
  (fX10_isSunday a1 μ).bind fun q1 =>
  if q1 = true then
    if a2 < 1 then
      some ((-1), μ)
    else
      if 99 < a2 then
        some ((-1), μ)
      else
        (fX5_copyFrom 13 9 μ).bind fun q2 =>
        fX10_used_34 a1 a2 (fun μ4 =>
            some ((-2), μ4)
        ) FU 0 q2
  else
    some ((-1), μ)
set_option maxRecDepth 100000 in
theorem wX10_used_34   (v1 : Int32) (v2 : Int32)  (K : Mem → Option (Int32 × Mem)) {res : Int32 × Mem} (hK : ∀  (μ : Mem), K μ = some res → RW mX10_used 7 NF NF 76 [] [] (μ, Rf0, NF) (QN (some (.int res.1)) res.2 Rf0 NF)) : ∀ (n9 : Nat) (v3 : Int32) (μ : Mem), fX10_used_34 v1 v2 K n9 v3 μ = some res → RW mX10_used 7 NF NF 34 [(0, .ref 0), (1, .int v1), (2, .int v2), (3, .int v3)] [] (μ, Rf0, NF) (QN (some (.int res.1)) res.2 Rf0 NF) := by
  intro n9
  induction n9 with
  | zero => intro _ _ h; cases h
  | succ n ih =>
    intro v3 μ h
    unfold fX10_used_34 at h
    refine rw_iload_n 34 dX10_used_34 3 rfl ?_
    refine rw_bipush 35 (v := 100) dX10_used_35 (by decide) ?_
    refine rn_icmp_gt 37 76 dX10_used_37 (by decide) h (fun _ h => ?_) (fun _ h => ?_)
    · refine rw_pick 76 [] rfl ?_
      exact hK μ h
    · refine rw_aload_n 40 dX10_used_40 0 rfl ?_
      refine rw_getR 41 10 3 kc10 dX10_used_41 ly_0 rln_0 fX10_30 rfl rf_0_3 ?_
      refine rw_getR 44 5 5 kc5 dX10_used_44 ly_13 rln_13 fX10_117 rfl rf_13_5 ?_
      refine rw_iload_n 47 dX10_used_47 1 rfl ?_
      refine rn_iald 48 dX10_used_48 ly_15 rln_15 h (fun h => ?_)
      refine rw_iload_n 49 dX10_used_49 2 rfl ?_
      refine rn_icmp_lt 50 55 dX10_used_50 (by decide) h (fun _ h => ?_) (fun _ h => ?_)
      · refine rw_aload_n 55 dX10_used_55 0 rfl ?_
        refine rw_getR 56 10 6 kc10 dX10_used_56 ly_0 rln_0 fX10_47 rfl rf_0_6 ?_
        refine rw_aload_n 59 dX10_used_59 0 rfl ?_
        refine rw_getR 60 10 9 kc10 dX10_used_60 ly_0 rln_0 fX10_68 rfl rf_0_9 ?_
        refine rw_aload_n 63 dX10_used_63 0 rfl ?_
        refine rw_getR 64 10 3 kc10 dX10_used_64 ly_0 rln_0 fX10_30 rfl rf_0_3 ?_
        refine rn_cVmv 67 1 [.ref 199, .ref 13] dX10_used_67 caX1_passWeek lX10_261 inX1_passWeek slX1_passWeek rfl ly_180 ⟨_, rfl, rfl⟩ rln_180 naX1_passWeek (Nat.le_of_ble_eq_true rfl) (Nat.le_of_ble_eq_true rfl) (by decide) (fun _ hq => wX1_passWeek 199 okX7_199 13 okX5_13 μ hq) h (fun q3 h => ?_)
        refine rw_iinc 70 [(0, .ref 0), (1, .int v1), (2, .int v2), (3, .int (v3 + 1))] dX10_used_70 3 rfl rfl (by decide) rfl ?_
        refine rw_goto 73 34 dX10_used_73 (by decide) ?_
        exact ih (v3 + 1) q3 h
      · refine rw_iload_n 53 dX10_used_53 3 rfl ?_
        exact rn_iret2 54 dX10_used_54 rfl h
set_option maxRecDepth 100000 in
theorem wX10_used (a1 : Int32) (a2 : Int32) (μ : Mem) {res : Int32 × Mem} (h : fX10_used a1 a2 μ = some res) : Ct mX10_used 7 NF NF [.ref 0, .int a1, .int a2] (μ, Rf0, NF) (QN (some (.int res.1)) res.2 Rf0 NF) := by
  unfold fX10_used at h
  show RW mX10_used 7 NF NF 0 [(0, .ref 0), (1, .int a1), (2, .int a2)] [] (μ, Rf0, NF) (QN (some (.int res.1)) res.2 Rf0 NF)
  refine rw_aload_n 0 dX10_used_0 0 rfl ?_
  refine rw_iload_n 1 dX10_used_1 1 rfl ?_
  refine rn_cVpb 2 10 [.int a1] dX10_used_2 caX10_isSunday lX10_107 inX10_isSunday slX10_isSunday rfl ly_0 ⟨_, rfl, rfl⟩ rln_0 naX10_isSunday (Nat.le_of_ble_eq_true rfl) (Nat.le_of_ble_eq_true rfl) (by decide) (fun _ hq => wX10_isSunday a1 μ hq) h (fun q1 h => ?_)
  refine rn_ifb_eq 5 19 dX10_used_5 (by decide) h (fun _ h => ?_) (fun _ h => ?_)
  · refine rw_iconst 19 (v := -1) dX10_used_19 (by decide) ?_
    exact rn_iret2 20 dX10_used_20 rfl h
  · refine rw_iload_n 8 dX10_used_8 2 rfl ?_
    refine rw_iconst 9 (v := 1) dX10_used_9 (by decide) ?_
    refine rn_icmp_lt 10 19 dX10_used_10 (by decide) h (fun _ h => ?_) (fun _ h => ?_)
    · refine rw_iconst 19 (v := -1) dX10_used_19 (by decide) ?_
      exact rn_iret2 20 dX10_used_20 rfl h
    · refine rw_iload_n 13 dX10_used_13 2 rfl ?_
      refine rw_bipush 14 (v := 99) dX10_used_14 (by decide) ?_
      refine rn_icmp_le 16 21 dX10_used_16 (by decide) h (fun _ h => ?_) (fun _ h => ?_)
      · refine rw_aload_n 21 dX10_used_21 0 rfl ?_
        refine rw_getR 22 10 3 kc10 dX10_used_22 ly_0 rln_0 fX10_30 rfl rf_0_3 ?_
        refine rw_aload_n 25 dX10_used_25 0 rfl ?_
        refine rw_getR 26 10 2 kc10 dX10_used_26 ly_0 rln_0 fX10_26 rfl rf_0_2 ?_
        refine rn_cVmv 29 5 [.ref 9] dX10_used_29 caX5_copyFrom lX10_258 inX5_copyFrom slX5_copyFrom rfl ly_13 ⟨_, rfl, rfl⟩ rln_13 naX5_copyFrom (Nat.le_of_ble_eq_true rfl) (Nat.le_of_ble_eq_true rfl) (by decide) (fun _ hq => wX5_copyFrom 13 okX5_13 9 okX5_9 μ hq) h (fun q2 h => ?_)
        refine rw_iconst 32 (v := 0) dX10_used_32 (by decide) ?_
        refine rw_istore_n 33 [(0, .ref 0), (1, .int a1), (2, .int a2), (3, .int 0)] dX10_used_33 (by decide) rfl ?_
        refine wX10_used_34 a1 a2 _ (fun μ4 h => ?_) FU 0 q2 h
        refine rw_bipush 76 (v := -2) dX10_used_76 (by decide) ?_
        exact rn_iret2 78 dX10_used_78 rfl h
      · refine rw_iconst 19 (v := -1) dX10_used_19 (by decide) ?_
        exact rn_iret2 20 dX10_used_20 rfl h
def fX10_firstWeary_2    (μ : Mem) (K : Unit → Option (Int32)) : Nat → Int32 → Option (Int32)
  | 0, _ => none
  | n + 1, v1 =>
    if v1 < (μ.1 199 3) then
      (fX5_isDead 13 v1 μ).bind fun q1 =>
      if q1 = true then
        fX10_firstWeary_2 μ K n (v1 + 1)
      else
        if inb v1 7 then
        if (μ.1 16 v1.toNatClampNeg) < (μ.1 199 8) then
          fX10_firstWeary_2 μ K n (v1 + 1)
        else
          some v1
        else none
    else
      K ()
def fX10_firstWeary  (μ : Mem) : Option (Int32) :=
  fX10_firstWeary_2 μ (fun _ =>
      some (-2)
  ) FU 0
set_option maxRecDepth 100000 in
theorem wX10_firstWeary_2    (μ : Mem) (K : Unit → Option (Int32)) {res : Int32} (hK : ∀ (_ : Unit), K () = some res → RW mX10_firstWeary 2 NF NF 51 [] [] (μ, Rf0, NF) (QN (some (.int res)) μ Rf0 NF)) : ∀ (n9 : Nat) (v1 : Int32), fX10_firstWeary_2 μ K n9 v1 = some res → RW mX10_firstWeary 2 NF NF 2 [(0, .ref 0), (1, .int v1)] [] (μ, Rf0, NF) (QN (some (.int res)) μ Rf0 NF) := by
  intro n9
  induction n9 with
  | zero => intro _ h; cases h
  | succ n ih =>
    intro v1 h
    unfold fX10_firstWeary_2 at h
    refine rw_iload_n 2 dX10_firstWeary_2 1 rfl ?_
    refine rw_aload_n 3 dX10_firstWeary_3 0 rfl ?_
    refine rw_getR 4 10 9 kc10 dX10_firstWeary_4 ly_0 rln_0 fX10_68 rfl rf_0_9 ?_
    refine rw_getI 7 7 3 kc7 dX10_firstWeary_7 ly_199 rln_199 fX10_155 rfl ?_
    refine rn_icmp_ge 10 51 dX10_firstWeary_10 (by decide) h (fun _ h => ?_) (fun _ h => ?_)
    · refine rw_pick 51 [] rfl ?_
      exact hK () h
    · refine rw_aload_n 13 dX10_firstWeary_13 0 rfl ?_
      refine rw_getR 14 10 3 kc10 dX10_firstWeary_14 ly_0 rln_0 fX10_30 rfl rf_0_3 ?_
      refine rw_iload_n 17 dX10_firstWeary_17 1 rfl ?_
      refine rn_cVpb 18 5 [.int v1] dX10_firstWeary_18 caX5_isDead lX10_149 inX5_isDead slX5_isDead rfl ly_13 ⟨_, rfl, rfl⟩ rln_13 naX5_isDead (Nat.le_of_ble_eq_true rfl) (Nat.le_of_ble_eq_true rfl) (by decide) (fun _ hq => wX5_isDead 13 okX5_13 v1 μ hq) h (fun q1 h => ?_)
      refine rn_ifb_ne 21 45 dX10_firstWeary_21 (by decide) h (fun _ h => ?_) (fun _ h => ?_)
      · refine rw_iinc 45 [(0, .ref 0), (1, .int (v1 + 1))] dX10_firstWeary_45 1 rfl rfl (by decide) rfl ?_
        refine rw_goto 48 2 dX10_firstWeary_48 (by decide) ?_
        exact ih (v1 + 1) h
      · refine rw_aload_n 24 dX10_firstWeary_24 0 rfl ?_
        refine rw_getR 25 10 3 kc10 dX10_firstWeary_25 ly_0 rln_0 fX10_30 rfl rf_0_3 ?_
        refine rw_getR 28 5 6 kc5 dX10_firstWeary_28 ly_13 rln_13 fX10_146 rfl rf_13_6 ?_
        refine rw_iload_n 31 dX10_firstWeary_31 1 rfl ?_
        refine rn_iald 32 dX10_firstWeary_32 ly_16 rln_16 h (fun h => ?_)
        refine rw_aload_n 33 dX10_firstWeary_33 0 rfl ?_
        refine rw_getR 34 10 9 kc10 dX10_firstWeary_34 ly_0 rln_0 fX10_68 rfl rf_0_9 ?_
        refine rw_getI 37 7 8 kc7 dX10_firstWeary_37 ly_199 rln_199 fX10_273 rfl ?_
        refine rn_icmp_lt 40 45 dX10_firstWeary_40 (by decide) h (fun _ h => ?_) (fun _ h => ?_)
        · refine rw_iinc 45 [(0, .ref 0), (1, .int (v1 + 1))] dX10_firstWeary_45 1 rfl rfl (by decide) rfl ?_
          refine rw_goto 48 2 dX10_firstWeary_48 (by decide) ?_
          exact ih (v1 + 1) h
        · refine rw_iload_n 43 dX10_firstWeary_43 1 rfl ?_
          exact rn_iret 44 dX10_firstWeary_44 rfl h
set_option maxRecDepth 100000 in
theorem wX10_firstWeary  (μ : Mem) {res : Int32} (h : fX10_firstWeary  μ = some res) : Ct mX10_firstWeary 2 NF NF [.ref 0] (μ, Rf0, NF) (QN (some (.int res)) μ Rf0 NF) := by
  unfold fX10_firstWeary at h
  show RW mX10_firstWeary 2 NF NF 0 [(0, .ref 0)] [] (μ, Rf0, NF) (QN (some (.int res)) μ Rf0 NF)
  refine rw_iconst 0 (v := 0) dX10_firstWeary_0 (by decide) ?_
  refine rw_istore_n 1 [(0, .ref 0), (1, .int 0)] dX10_firstWeary_1 (by decide) rfl ?_
  refine wX10_firstWeary_2 μ _ (fun _ h => ?_) FU 0 h
  refine rw_bipush 51 (v := -2) dX10_firstWeary_51 (by decide) ?_
  exact rn_iret 53 dX10_firstWeary_53 rfl h
def fX10_first_23   (v1 : Int32)  (K : Mem → Option (Int32 × Mem)) : Nat → Int32 → Mem → Option (Int32 × Mem)
  | 0, _, _ => none
  | n + 1, v2, μ =>
    if 100 < v2 then
      K μ
    else
      (fX10_firstWeary μ).bind fun q3 =>
      if q3 = (-2) then
        (fX1_passWeek 199 13 μ).bind fun q4 =>
        fX10_first_23 v1 K n (v2 + 1) q4
      else
        if v1 = 0 then
          some (v2, μ)
        else
          some (q3, μ)
def fX10_first (a1 : Int32) (μ : Mem) : Option (Int32 × Mem) :=
  (fX10_isOneOfTwo a1 μ).bind fun q1 =>
  if q1 = true then
    (fX5_copyFrom 13 9 μ).bind fun q2 =>
    fX10_first_23 a1 (fun μ5 =>
        some ((-2), μ5)
    ) FU 0 q2
  else
    some ((-1), μ)
set_option maxRecDepth 100000 in
theorem wX10_first_23   (v1 : Int32)  (K : Mem → Option (Int32 × Mem)) {res : Int32 × Mem} (hK : ∀  (μ : Mem), K μ = some res → RW mX10_first 7 NF NF 71 [] [] (μ, Rf0, NF) (QN (some (.int res.1)) res.2 Rf0 NF)) : ∀ (n9 : Nat) (v2 : Int32) (μ : Mem), fX10_first_23 v1 K n9 v2 μ = some res → RW mX10_first 7 NF NF 23 [(0, .ref 0), (1, .int v1), (2, .int v2)] [] (μ, Rf0, NF) (QN (some (.int res.1)) res.2 Rf0 NF) := by
  intro n9
  induction n9 with
  | zero => intro _ _ h; cases h
  | succ n ih =>
    intro v2 μ h
    unfold fX10_first_23 at h
    refine rw_iload_n 23 dX10_first_23 2 rfl ?_
    refine rw_bipush 24 (v := 100) dX10_first_24 (by decide) ?_
    refine rn_icmp_gt 26 71 dX10_first_26 (by decide) h (fun _ h => ?_) (fun _ h => ?_)
    · refine rw_pick 71 [] rfl ?_
      exact hK μ h
    · refine rw_aload_n 29 dX10_first_29 0 rfl ?_
      refine rn_cVpi 30 10 [] dX10_first_30 caX10_firstWeary lX10_265 inX10_firstWeary slX10_firstWeary rfl ly_0 ⟨_, rfl, rfl⟩ rln_0 naX10_firstWeary (Nat.le_of_ble_eq_true rfl) (Nat.le_of_ble_eq_true rfl) (by decide) (fun _ hq => wX10_firstWeary μ hq) h (fun q3 h => ?_)
      refine rw_istore_n 33 [(0, .ref 0), (1, .int v1), (2, .int v2), (3, .int q3)] dX10_first_33 (by decide) rfl ?_
      refine rw_iload_n 34 dX10_first_34 3 rfl ?_
      refine rw_bipush 35 (v := -2) dX10_first_35 (by decide) ?_
      refine rn_icmp_eq 37 50 dX10_first_37 (by decide) h (fun _ h => ?_) (fun _ h => ?_)
      · refine rw_aload_n 50 dX10_first_50 0 rfl ?_
        refine rw_getR 51 10 6 kc10 dX10_first_51 ly_0 rln_0 fX10_47 rfl rf_0_6 ?_
        refine rw_aload_n 54 dX10_first_54 0 rfl ?_
        refine rw_getR 55 10 9 kc10 dX10_first_55 ly_0 rln_0 fX10_68 rfl rf_0_9 ?_
        refine rw_aload_n 58 dX10_first_58 0 rfl ?_
        refine rw_getR 59 10 3 kc10 dX10_first_59 ly_0 rln_0 fX10_30 rfl rf_0_3 ?_
        refine rn_cVmv 62 1 [.ref 199, .ref 13] dX10_first_62 caX1_passWeek lX10_261 inX1_passWeek slX1_passWeek rfl ly_180 ⟨_, rfl, rfl⟩ rln_180 naX1_passWeek (Nat.le_of_ble_eq_true rfl) (Nat.le_of_ble_eq_true rfl) (by decide) (fun _ hq => wX1_passWeek 199 okX7_199 13 okX5_13 μ hq) h (fun q4 h => ?_)
        refine rw_iinc 65 [(0, .ref 0), (1, .int v1), (2, .int (v2 + 1)), (3, .int q3)] dX10_first_65 2 rfl rfl (by decide) rfl ?_
        refine rw_goto 68 23 dX10_first_68 (by decide) ?_
        refine rw_pick 23 [0, 1, 2] rfl ?_
        exact ih (v2 + 1) q4 h
      · refine rw_iload_n 40 dX10_first_40 1 rfl ?_
        refine rn_if_ne 41 48 dX10_first_41 (by decide) h (fun _ h => ?_) (fun _ h => ?_)
        · refine rw_iload_n 48 dX10_first_48 3 rfl ?_
          exact rn_iret2 49 dX10_first_49 rfl h
        · refine rw_iload_n 44 dX10_first_44 2 rfl ?_
          refine rw_goto 45 49 dX10_first_45 (by decide) ?_
          exact rn_iret2 49 dX10_first_49 rfl h
set_option maxRecDepth 100000 in
theorem wX10_first (a1 : Int32) (μ : Mem) {res : Int32 × Mem} (h : fX10_first a1 μ = some res) : Ct mX10_first 7 NF NF [.ref 0, .int a1] (μ, Rf0, NF) (QN (some (.int res.1)) res.2 Rf0 NF) := by
  unfold fX10_first at h
  show RW mX10_first 7 NF NF 0 [(0, .ref 0), (1, .int a1)] [] (μ, Rf0, NF) (QN (some (.int res.1)) res.2 Rf0 NF)
  refine rw_aload_n 0 dX10_first_0 0 rfl ?_
  refine rw_iload_n 1 dX10_first_1 1 rfl ?_
  refine rn_cVpb 2 10 [.int a1] dX10_first_2 caX10_isOneOfTwo lX10_199 inX10_isOneOfTwo slX10_isOneOfTwo rfl ly_0 ⟨_, rfl, rfl⟩ rln_0 naX10_isOneOfTwo (Nat.le_of_ble_eq_true rfl) (Nat.le_of_ble_eq_true rfl) (by decide) (fun _ hq => wX10_isOneOfTwo a1 μ hq) h (fun q1 h => ?_)
  refine rn_ifb_ne 5 10 dX10_first_5 (by decide) h (fun _ h => ?_) (fun _ h => ?_)
  · refine rw_aload_n 10 dX10_first_10 0 rfl ?_
    refine rw_getR 11 10 3 kc10 dX10_first_11 ly_0 rln_0 fX10_30 rfl rf_0_3 ?_
    refine rw_aload_n 14 dX10_first_14 0 rfl ?_
    refine rw_getR 15 10 2 kc10 dX10_first_15 ly_0 rln_0 fX10_26 rfl rf_0_2 ?_
    refine rn_cVmv 18 5 [.ref 9] dX10_first_18 caX5_copyFrom lX10_258 inX5_copyFrom slX5_copyFrom rfl ly_13 ⟨_, rfl, rfl⟩ rln_13 naX5_copyFrom (Nat.le_of_ble_eq_true rfl) (Nat.le_of_ble_eq_true rfl) (by decide) (fun _ hq => wX5_copyFrom 13 okX5_13 9 okX5_9 μ hq) h (fun q2 h => ?_)
    refine rw_iconst 21 (v := 0) dX10_first_21 (by decide) ?_
    refine rw_istore_n 22 [(0, .ref 0), (1, .int a1), (2, .int 0)] dX10_first_22 (by decide) rfl ?_
    refine wX10_first_23 a1 _ (fun μ5 h => ?_) FU 0 q2 h
    refine rw_bipush 71 (v := -2) dX10_first_71 (by decide) ?_
    exact rn_iret2 73 dX10_first_73 rfl h
  · refine rw_iconst 8 (v := -1) dX10_first_8 (by decide) ?_
    exact rn_iret2 9 dX10_first_9 rfl h
