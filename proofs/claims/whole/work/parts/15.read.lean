/-! ===== LentSundays.read: the texts change places if there is no fault ===== -/
def fX10_read (μ : Mem) : Option (Int32 × Mem × Bool) :=
  (fX4_readTape 215 μ).bind fun q =>
  nm (wI q 1 1 0) fun μ1 =>
  if μ1.1 3 0 = 0 then
    (fX5_begin 9 μ1).bind fun q2 =>
    nm (wI q2 17 0 0) fun μ2 =>
    nm (wI μ2 196 0 0) fun μ3 =>
    nm (wI μ3 0 11 0) fun μ4 =>
    some (μ4.1 3 0, μ4, true)
  else
    some (μ1.1 3 0, μ1, false)
theorem ok5_r1 : okX5 Rf1 NF 9 := ⟨by decide, ly_9, rfl, ly_10, rfl, ly_11, rfl, ly_12⟩
set_option maxRecDepth 100000 in
theorem wX10_read (μ : Mem) {res : Int32 × Mem × Bool} (h : fX10_read μ = some res) : Ct mX10_read 70 NF NF [.ref 0] (μ, Rf0, NF) (fun r9 σ9 => r9 = some (.int res.1) ∧ σ9 = (res.2.1, if res.2.2 = true then Rf1 else Rf0, NF)) := by
  unfold fX10_read at h
  show RW mX10_read 70 NF NF 0 [(0, .ref 0)] [] (μ, Rf0, NF) _
  refine rw_aload_n 0 dX10_read_0 0 rfl ?_
  refine rw_getR 1 10 1 kc10 dX10_read_1 ly_0 rln_0 fX10_19 rfl rf_0_1 ?_
  refine rw_aload_n 4 dX10_read_4 0 rfl ?_
  refine rw_getR 5 10 0 kc10 dX10_read_5 ly_0 rln_0 fX10_12 rfl rf_0_0 ?_
  refine rw_aload_n 8 dX10_read_8 0 rfl ?_
  refine rw_getR 9 10 10 kc10 dX10_read_9 ly_0 rln_0 fX10_72 rfl rf_0_10 ?_
  refine rn_cVmv 12 4 [.ref 1, .ref 215] dX10_read_12 caX4_readTape lX10_90 inX4_readTape slX4_readTape rfl ly_3 ⟨_, rfl, rfl⟩ rln_3 naX4_readTape (Nat.le_of_ble_eq_true rfl) (Nat.le_of_ble_eq_true rfl) (by decide) (fun _ hq => wX4_readTape 215 okX7_215 μ hq) h (fun q h => ?_)
  refine rw_aload_n 15 dX10_read_15 0 rfl ?_
  refine rw_getR 16 10 0 kc10 dX10_read_16 ly_0 rln_0 fX10_12 rfl rf_0_0 ?_
  refine rw_iconst 19 (v := 0) dX10_read_19 (by decide) ?_
  refine rn_putI 20 6 1 kc6 dX10_read_20 ly_1 rln_1 fX10_87 (fun q hq => by cases hq; rfl) rfl rfl rfl h (fun μ1 h => ?_)
  refine rw_aload_n 23 dX10_read_23 0 rfl ?_
  refine rw_getR 24 10 1 kc10 dX10_read_24 ly_0 rln_0 fX10_19 rfl rf_0_1 ?_
  refine rw_getI 27 4 0 kc4 dX10_read_27 ly_3 rln_3 fX10_94 rfl ?_
  refine rn_if_ne 30 79 dX10_read_30 (by decide) h (fun _ h => ?_) (fun _ h => ?_)
  · cases h
    refine rw_aload_n 79 dX10_read_79 0 rfl ?_
    refine rw_getR 80 10 1 kc10 dX10_read_80 ly_0 rln_0 fX10_19 rfl rf_0_1 ?_
    refine rw_getI 83 4 0 kc4 dX10_read_83 ly_3 rln_3 fX10_94 rfl ?_
    exact rw_iret 86 dX10_read_86 rfl rfl ⟨rfl, rfl⟩
  · refine rw_aload_n 33 dX10_read_33 0 rfl ?_
    refine rw_getR 34 10 9 kc10 dX10_read_34 ly_0 rln_0 fX10_68 rfl rf_0_9 ?_
    refine rw_astore_n 37 [(0, .ref 0), (1, .ref 199)] dX10_read_37 (by decide) rfl ?_
    refine rw_aload_n 38 dX10_read_38 0 rfl ?_
    refine rw_aload_n 39 dX10_read_39 0 rfl ?_
    refine rw_getR 40 10 10 kc10 dX10_read_40 ly_0 rln_0 fX10_72 rfl rf_0_10 ?_
    refine rw_putR 43 10 9 kc10 dX10_read_43 ly_0 rln_0 fX10_68 (Or.inl fun q hq => by cases hq; rfl) rfl ?_
    refine rw_aload_n 46 dX10_read_46 0 rfl ?_
    refine rw_aload_n 47 dX10_read_47 1 rfl ?_
    refine rw_putR 48 10 10 kc10 dX10_read_48 ly_0 rln_0 fX10_72 (Or.inl fun q hq => by cases hq; rfl) rfl ?_
    show RW mX10_read 70 NF NF 51 [(0, .ref 0), (1, .ref 199)] [] (μ1, Rf1, NF) _
    refine rw_aload_n 51 dX10_read_51 0 rfl ?_
    refine rw_getR 52 10 2 kc10 dX10_read_52 ly_0 rln_0 fX10_26 rfl (b := 9) rfl ?_
    refine rn_cVmv 55 5 [] dX10_read_55 caX5_begin lX10_97 inX5_begin slX5_begin rfl ly_9 ⟨_, rfl, rfl⟩ rln_9 naX5_begin (Nat.le_of_ble_eq_true rfl) (Nat.le_of_ble_eq_true rfl) (by decide) (fun _ hq => wX5_begin 9 ok5_r1 μ1 hq) h (fun q2 h => ?_)
    refine rw_aload_n 58 dX10_read_58 0 rfl ?_
    refine rw_getR 59 10 4 kc10 dX10_read_59 ly_0 rln_0 fX10_36 rfl (b := 17) rfl ?_
    refine rw_iconst 62 (v := 0) dX10_read_62 (by decide) ?_
    refine rn_putI 63 9 0 kc9 dX10_read_63 ly_17 rln_17 fX10_100 (fun q hq => by cases hq; rfl) rfl rfl rfl h (fun μ2 h => ?_)
    refine rw_aload_n 66 dX10_read_66 0 rfl ?_
    refine rw_getR 67 10 8 kc10 dX10_read_67 ly_0 rln_0 fX10_61 rfl (b := 196) rfl ?_
    refine rw_iconst 70 (v := 0) dX10_read_70 (by decide) ?_
    refine rn_putI 71 0 0 kc0 dX10_read_71 ly_196 rln_196 fX10_103 (fun q hq => by cases hq; rfl) rfl rfl rfl h (fun μ3 h => ?_)
    refine rw_aload_n 74 dX10_read_74 0 rfl ?_
    refine rw_iconst 75 (v := 0) dX10_read_75 (by decide) ?_
    refine rn_putI 76 10 11 kc10 dX10_read_76 ly_0 rln_0 fX10_75 (fun q hq => by cases hq; rfl) rfl rfl rfl h (fun μ4 h => ?_)
    cases h
    refine rw_aload_n 79 dX10_read_79 0 rfl ?_
    refine rw_getR 80 10 1 kc10 dX10_read_80 ly_0 rln_0 fX10_19 rfl (b := 3) rfl ?_
    refine rw_getI 83 4 0 kc4 dX10_read_83 ly_3 rln_3 fX10_94 rfl ?_
    exact rw_iret 86 dX10_read_86 rfl rfl ⟨rfl, rfl⟩
