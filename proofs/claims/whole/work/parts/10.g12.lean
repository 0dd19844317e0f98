def fX11_mayDie (a1 : Int32) (μ : Mem) : Option (Mem) :=
  if (μ.1 243 53) = 0 then
    if inb a1 31 then
    if (μ.1 277 a1.toNatClampNeg) < 0 then
      some μ
    else
      if inb (7 + a1) 31 then
      if inb (μ.1 243 18) 2 then
      if (μ.1 277 (7 + a1).toNatClampNeg) < (μ.1 262 (μ.1 243 18).toNatClampNeg) then
        some μ
      else
        (fX11_lotOf ((8 * (μ.1 277 29)) + a1) μ).bind fun q1 =>
        if inb (7 + a1) 31 then
        if inb (μ.1 243 18) 2 then
        if q1 < (((μ.1 277 (7 + a1).toNatClampNeg) - (μ.1 262 (μ.1 243 18).toNatClampNeg)) + 10) then
          if inb (14 + a1) 31 then nm (wI μ 277 (14 + a1).toNatClampNeg 1) fun μ2 =>
          if inb a1 31 then nm (wI μ2 277 a1.toNatClampNeg (-2)) fun μ3 =>
          some μ3
          else none
          else none
        else
          some μ
        else none
        else none
      else none
      else none
    else none
  else
    some μ
set_option maxRecDepth 100000 in
theorem wX11_mayDie (a1 : Int32) (μ : Mem) {res : Mem} (h : fX11_mayDie a1 μ = some res) : Ct mX11_mayDie 3 NF NF [.ref 243, .int a1] (μ, Rf0, NF) (QN none res Rf0 NF) := by
  unfold fX11_mayDie at h
  show RW mX11_mayDie 3 NF NF 0 [(0, .ref 243), (1, .int a1)] [] (μ, Rf0, NF) (QN none res Rf0 NF)
  refine rw_aload_n 0 dX11_mayDie_0 0 rfl ?_
  refine rw_getI 1 11 53 kc11 dX11_mayDie_1 ly_243 rln_243 fX11_323 rfl ?_
  refine rn_if_ne 4 37 dX11_mayDie_4 (by decide) h (fun _ h => ?_) (fun _ h => ?_)
  · exact rn_vret 37 dX11_mayDie_37 rfl h
  · refine rw_aload_n 7 dX11_mayDie_7 0 rfl ?_
    refine rw_getR 8 11 51 kc11 dX11_mayDie_8 ly_243 rln_243 fX11_119 rfl rf_243_51 ?_
    refine rw_iload_n 11 dX11_mayDie_11 1 rfl ?_
    refine rn_iald 12 dX11_mayDie_12 ly_277 rln_277 h (fun h => ?_)
    refine rn_if_lt 13 37 dX11_mayDie_13 (by decide) h (fun _ h => ?_) (fun _ h => ?_)
    · exact rn_vret 37 dX11_mayDie_37 rfl h
    · refine rw_aload_n 16 dX11_mayDie_16 0 rfl ?_
      refine rw_getR 17 11 51 kc11 dX11_mayDie_17 ly_243 rln_243 fX11_119 rfl rf_243_51 ?_
      refine rw_bipush 20 (v := 7) dX11_mayDie_20 (by decide) ?_
      refine rw_iload_n 22 dX11_mayDie_22 1 rfl ?_
      refine rw_iadd 23 dX11_mayDie_23 ?_
      refine rn_iald 24 dX11_mayDie_24 ly_277 rln_277 h (fun h => ?_)
      refine rw_aload_n 25 dX11_mayDie_25 0 rfl ?_
      refine rw_getR 26 11 32 kc11 dX11_mayDie_26 ly_243 rln_243 fX11_73 rfl rf_243_32 ?_
      refine rw_aload_n 29 dX11_mayDie_29 0 rfl ?_
      refine rw_getI 30 11 18 kc11 dX11_mayDie_30 ly_243 rln_243 fX11_236 rfl ?_
      refine rn_iald 33 dX11_mayDie_33 ly_262 rln_262 h (fun h => ?_)
      refine rn_icmp_ge 34 38 dX11_mayDie_34 (by decide) h (fun _ h => ?_) (fun _ h => ?_)
      · refine rw_aload_n 38 dX11_mayDie_38 0 rfl ?_
        refine rw_bipush 39 (v := 8) dX11_mayDie_39 (by decide) ?_
        refine rw_aload_n 41 dX11_mayDie_41 0 rfl ?_
        refine rw_getR 42 11 51 kc11 dX11_mayDie_42 ly_243 rln_243 fX11_119 rfl rf_243_51 ?_
        refine rw_bipush 45 (v := 29) dX11_mayDie_45 (by decide) ?_
        refine rn_ialdc 47 dX11_mayDie_47 ly_277 rln_277 (by decide) (j := 29) (by decide) ?_
        refine rw_imul 48 dX11_mayDie_48 ?_
        refine rw_iload_n 49 dX11_mayDie_49 1 rfl ?_
        refine rw_iadd 50 dX11_mayDie_50 ?_
        refine rn_cVpi 51 11 [.int ((8 * (μ.1 277 29)) + a1)] dX11_mayDie_51 caX11_lotOf lX11_383 inX11_lotOf slX11_lotOf rfl ly_243 ⟨_, rfl, rfl⟩ rln_243 naX11_lotOf (Nat.le_of_ble_eq_true rfl) (Nat.le_of_ble_eq_true rfl) (by decide) (fun _ hq => wX11_lotOf ((8 * (μ.1 277 29)) + a1) μ hq) h (fun q1 h => ?_)
        refine rw_aload_n 54 dX11_mayDie_54 0 rfl ?_
        refine rw_getR 55 11 51 kc11 dX11_mayDie_55 ly_243 rln_243 fX11_119 rfl rf_243_51 ?_
        refine rw_bipush 58 (v := 7) dX11_mayDie_58 (by decide) ?_
        refine rw_iload_n 60 dX11_mayDie_60 1 rfl ?_
        refine rw_iadd 61 dX11_mayDie_61 ?_
        refine rn_iald 62 dX11_mayDie_62 ly_277 rln_277 h (fun h => ?_)
        refine rw_aload_n 63 dX11_mayDie_63 0 rfl ?_
        refine rw_getR 64 11 32 kc11 dX11_mayDie_64 ly_243 rln_243 fX11_73 rfl rf_243_32 ?_
        refine rw_aload_n 67 dX11_mayDie_67 0 rfl ?_
        refine rw_getI 68 11 18 kc11 dX11_mayDie_68 ly_243 rln_243 fX11_236 rfl ?_
        refine rn_iald 71 dX11_mayDie_71 ly_262 rln_262 h (fun h => ?_)
        refine rw_isub 72 dX11_mayDie_72 ?_
        refine rw_bipush 73 (v := 10) dX11_mayDie_73 (by decide) ?_
        refine rw_iadd 75 dX11_mayDie_75 ?_
        refine rn_icmp_lt 76 80 dX11_mayDie_76 (by decide) h (fun _ h => ?_) (fun _ h => ?_)
        · refine rw_aload_n 80 dX11_mayDie_80 0 rfl ?_
          refine rw_getR 81 11 51 kc11 dX11_mayDie_81 ly_243 rln_243 fX11_119 rfl rf_243_51 ?_
          refine rw_bipush 84 (v := 14) dX11_mayDie_84 (by decide) ?_
          refine rw_iload_n 86 dX11_mayDie_86 1 rfl ?_
          refine rw_iadd 87 dX11_mayDie_87 ?_
          refine rw_iconst 88 (v := 1) dX11_mayDie_88 (by decide) ?_
          refine rn_iast 89 dX11_mayDie_89 ly_277 rln_277 h (fun μ2 h => ?_)
          refine rw_aload_n 90 dX11_mayDie_90 0 rfl ?_
          refine rw_getR 91 11 51 kc11 dX11_mayDie_91 ly_243 rln_243 fX11_119 rfl rf_243_51 ?_
          refine rw_iload_n 94 dX11_mayDie_94 1 rfl ?_
          refine rw_bipush 95 (v := -2) dX11_mayDie_95 (by decide) ?_
          refine rn_iast 97 dX11_mayDie_97 ly_277 rln_277 h (fun μ3 h => ?_)
          exact rn_vret 98 dX11_mayDie_98 rfl h
        · exact rn_vret 79 dX11_mayDie_79 rfl h
      · exact rn_vret 37 dX11_mayDie_37 rfl h
def fX11_weekGoes_7   (v1 : Int32)  (K : Mem → Option (Mem)) : Nat → Int32 → Mem → Option (Mem)
  | 0, _, _ => none
  | n + 1, v2, μ =>
    if inb (μ.1 243 18) 2 then
    if v2 < (μ.1 256 (μ.1 243 18).toNatClampNeg) then
      (fX11_restsOf v2 μ).bind fun q2 =>
      if inb v2 7 then nm (wI q2.2 278 v2.toNatClampNeg q2.1) fun μ3 =>
      fX11_weekGoes_7 v1 K n (v2 + 1) μ3
      else none
    else
      K μ
    else none
def fX11_weekGoes_39   (v1 : Int32)  (K : Mem → Option (Mem)) : Nat → Int32 → Mem → Option (Mem)
  | 0, _, _ => none
  | n + 1, v2, μ =>
    if inb (μ.1 243 18) 2 then
    if v2 < (μ.1 253 (μ.1 243 18).toNatClampNeg) then
      (fX11_wearsOf v2 μ).bind fun q5 =>
      if inb v2 4 then nm (wI q5.2 279 v2.toNatClampNeg q5.1) fun μ6 =>
      fX11_weekGoes_39 v1 K n (v2 + 1) μ6
      else none
    else
      K μ
    else none
def fX11_weekGoes_82     (K : Mem → Option (Mem)) : Nat → Int32 → Mem → Option (Mem)
  | 0, _, _ => none
  | n + 1, v2, μ =>
    if inb (μ.1 243 18) 2 then
    if v2 < (μ.1 256 (μ.1 243 18).toNatClampNeg) then
      (fX11_restsIn v2 μ).bind fun q9 =>
      fX11_weekGoes_82 K n (v2 + 1) q9
    else
      K μ
    else none
def fX11_weekGoes_108     (K : Mem → Option (Mem)) : Nat → Int32 → Mem → Option (Mem)
  | 0, _, _ => none
  | n + 1, v2, μ =>
    if inb (μ.1 243 18) 2 then
    if v2 < (μ.1 253 (μ.1 243 18).toNatClampNeg) then
      if inb (21 + v2) 31 then
      if inb v2 4 then
      (fX11_within ((μ.1 277 (21 + v2).toNatClampNeg) + (μ.1 279 v2.toNatClampNeg)) 0 99 μ).bind fun q11 =>
      if inb (21 + v2) 31 then nm (wI μ 277 (21 + v2).toNatClampNeg q11) fun μ12 =>
      fX11_weekGoes_108 K n (v2 + 1) μ12
      else none
      else none
      else none
    else
      K μ
    else none
def fX11_weekGoes_160     (K : Mem → Option (Mem)) : Nat → Int32 → Mem → Option (Mem)
  | 0, _, _ => none
  | n + 1, v2, μ =>
    if inb (μ.1 243 18) 2 then
    if v2 < (μ.1 256 (μ.1 243 18).toNatClampNeg) then
      (fX11_mayDie v2 μ).bind fun q14 =>
      fX11_weekGoes_160 K n (v2 + 1) q14
    else
      K μ
    else none
def fX11_weekGoes  (μ : Mem) : Option (Mem) :=
  (fX11_dueAll μ).bind fun q1 =>
  fX11_weekGoes_7 q1.1 (fun μ4 =>
      fX11_weekGoes_39 q1.1 (fun μ7 =>
          nm (wI μ7 277 30 ((μ7.1 277 30) + q1.1)) fun μ8 =>
          fX11_weekGoes_82  (fun μ10 =>
              fX11_weekGoes_108  (fun μ13 =>
                  fX11_weekGoes_160  (fun μ15 =>
                      nm (wI μ15 277 29 ((μ15.1 277 29) + 1)) fun μ16 =>
                      some μ16
                  ) FU 0 μ13
              ) FU 0 μ10
          ) FU 0 μ8
      ) FU 0 μ4
  ) FU 0 q1.2
set_option maxRecDepth 100000 in
theorem wX11_weekGoes_7   (v1 : Int32)  (K : Mem → Option (Mem)) {res : Mem} (hK : ∀  (μ : Mem), K μ = some res → RW mX11_weekGoes 6 NF NF 37 [(0, .ref 243), (1, .int v1)] [] (μ, Rf0, NF) (QN none res Rf0 NF)) : ∀ (n9 : Nat) (v2 : Int32) (μ : Mem), fX11_weekGoes_7 v1 K n9 v2 μ = some res → RW mX11_weekGoes 6 NF NF 7 [(0, .ref 243), (1, .int v1), (2, .int v2)] [] (μ, Rf0, NF) (QN none res Rf0 NF) := by
  intro n9
  induction n9 with
  | zero => intro _ _ h; cases h
  | succ n ih =>
    intro v2 μ h
    unfold fX11_weekGoes_7 at h
    refine rw_iload_n 7 dX11_weekGoes_7 2 rfl ?_
    refine rw_aload_n 8 dX11_weekGoes_8 0 rfl ?_
    refine rw_getR 9 11 26 kc11 dX11_weekGoes_9 ly_243 rln_243 fX11_55 rfl rf_243_26 ?_
    refine rw_aload_n 12 dX11_weekGoes_12 0 rfl ?_
    refine rw_getI 13 11 18 kc11 dX11_weekGoes_13 ly_243 rln_243 fX11_236 rfl ?_
    refine rn_iald 16 dX11_weekGoes_16 ly_256 rln_256 h (fun h => ?_)
    refine rn_icmp_ge 17 37 dX11_weekGoes_17 (by decide) h (fun _ h => ?_) (fun _ h => ?_)
    · refine rw_pick 37 [0, 1] rfl ?_
      exact hK μ h
    · refine rw_aload_n 20 dX11_weekGoes_20 0 rfl ?_
      refine rw_getR 21 11 54 kc11 dX11_weekGoes_21 ly_243 rln_243 fX11_122 rfl rf_243_54 ?_
      refine rw_iload_n 24 dX11_weekGoes_24 2 rfl ?_
      refine rw_aload_n 25 dX11_weekGoes_25 0 rfl ?_
      refine rw_iload_n 26 dX11_weekGoes_26 2 rfl ?_
      refine rn_cVmi 27 11 [.int v2] dX11_weekGoes_27 caX11_restsOf lX11_389 inX11_restsOf slX11_restsOf rfl ly_243 ⟨_, rfl, rfl⟩ rln_243 naX11_restsOf (Nat.le_of_ble_eq_true rfl) (Nat.le_of_ble_eq_true rfl) (by decide) (fun _ hq => wX11_restsOf v2 μ hq) h (fun q2 h => ?_)
      refine rn_iast 30 dX11_weekGoes_30 ly_278 rln_278 h (fun μ3 h => ?_)
      refine rw_iinc 31 [(0, .ref 243), (1, .int v1), (2, .int (v2 + 1))] dX11_weekGoes_31 2 rfl rfl (by decide) rfl ?_
      refine rw_goto 34 7 dX11_weekGoes_34 (by decide) ?_
      exact ih (v2 + 1) μ3 h
set_option maxRecDepth 100000 in
theorem wX11_weekGoes_39   (v1 : Int32)  (K : Mem → Option (Mem)) {res : Mem} (hK : ∀  (μ : Mem), K μ = some res → RW mX11_weekGoes 6 NF NF 69 [(0, .ref 243), (1, .int v1)] [] (μ, Rf0, NF) (QN none res Rf0 NF)) : ∀ (n9 : Nat) (v2 : Int32) (μ : Mem), fX11_weekGoes_39 v1 K n9 v2 μ = some res → RW mX11_weekGoes 6 NF NF 39 [(0, .ref 243), (1, .int v1), (2, .int v2)] [] (μ, Rf0, NF) (QN none res Rf0 NF) := by
  intro n9
  induction n9 with
  | zero => intro _ _ h; cases h
  | succ n ih =>
    intro v2 μ h
    unfold fX11_weekGoes_39 at h
    refine rw_iload_n 39 dX11_weekGoes_39 2 rfl ?_
    refine rw_aload_n 40 dX11_weekGoes_40 0 rfl ?_
    refine rw_getR 41 11 23 kc11 dX11_weekGoes_41 ly_243 rln_243 fX11_46 rfl rf_243_23 ?_
    refine rw_aload_n 44 dX11_weekGoes_44 0 rfl ?_
    refine rw_getI 45 11 18 kc11 dX11_weekGoes_45 ly_243 rln_243 fX11_236 rfl ?_
    refine rn_iald 48 dX11_weekGoes_48 ly_253 rln_253 h (fun h => ?_)
    refine rn_icmp_ge 49 69 dX11_weekGoes_49 (by decide) h (fun _ h => ?_) (fun _ h => ?_)
    · refine rw_pick 69 [0, 1] rfl ?_
      exact hK μ h
    · refine rw_aload_n 52 dX11_weekGoes_52 0 rfl ?_
      refine rw_getR 53 11 55 kc11 dX11_weekGoes_53 ly_243 rln_243 fX11_125 rfl rf_243_55 ?_
      refine rw_iload_n 56 dX11_weekGoes_56 2 rfl ?_
      refine rw_aload_n 57 dX11_weekGoes_57 0 rfl ?_
      refine rw_iload_n 58 dX11_weekGoes_58 2 rfl ?_
      refine rn_cVmi 59 11 [.int v2] dX11_weekGoes_59 caX11_wearsOf lX11_392 inX11_wearsOf slX11_wearsOf rfl ly_243 ⟨_, rfl, rfl⟩ rln_243 naX11_wearsOf (Nat.le_of_ble_eq_true rfl) (Nat.le_of_ble_eq_true rfl) (by decide) (fun _ hq => wX11_wearsOf v2 μ hq) h (fun q5 h => ?_)
      refine rn_iast 62 dX11_weekGoes_62 ly_279 rln_279 h (fun μ6 h => ?_)
      refine rw_iinc 63 [(0, .ref 243), (1, .int v1), (2, .int (v2 + 1))] dX11_weekGoes_63 2 rfl rfl (by decide) rfl ?_
      refine rw_goto 66 39 dX11_weekGoes_66 (by decide) ?_
      exact ih (v2 + 1) μ6 h
set_option maxRecDepth 100000 in
theorem wX11_weekGoes_82     (K : Mem → Option (Mem)) {res : Mem} (hK : ∀  (μ : Mem), K μ = some res → RW mX11_weekGoes 6 NF NF 106 [(0, .ref 243)] [] (μ, Rf0, NF) (QN none res Rf0 NF)) : ∀ (n9 : Nat) (v2 : Int32) (μ : Mem), fX11_weekGoes_82 K n9 v2 μ = some res → RW mX11_weekGoes 6 NF NF 82 [(0, .ref 243), (2, .int v2)] [] (μ, Rf0, NF) (QN none res Rf0 NF) := by
  intro n9
  induction n9 with
  | zero => intro _ _ h; cases h
  | succ n ih =>
    intro v2 μ h
    unfold fX11_weekGoes_82 at h
    refine rw_iload_n 82 dX11_weekGoes_82 1 rfl ?_
    refine rw_aload_n 83 dX11_weekGoes_83 0 rfl ?_
    refine rw_getR 84 11 26 kc11 dX11_weekGoes_84 ly_243 rln_243 fX11_55 rfl rf_243_26 ?_
    refine rw_aload_n 87 dX11_weekGoes_87 0 rfl ?_
    refine rw_getI 88 11 18 kc11 dX11_weekGoes_88 ly_243 rln_243 fX11_236 rfl ?_
    refine rn_iald 91 dX11_weekGoes_91 ly_256 rln_256 h (fun h => ?_)
    refine rn_icmp_ge 92 106 dX11_weekGoes_92 (by decide) h (fun _ h => ?_) (fun _ h => ?_)
    · refine rw_pick 106 [0] rfl ?_
      exact hK μ h
    · refine rw_aload_n 95 dX11_weekGoes_95 0 rfl ?_
      refine rw_iload_n 96 dX11_weekGoes_96 1 rfl ?_
      refine rn_cVmv 97 11 [.int v2] dX11_weekGoes_97 caX11_restsIn lX11_395 inX11_restsIn slX11_restsIn rfl ly_243 ⟨_, rfl, rfl⟩ rln_243 naX11_restsIn (Nat.le_of_ble_eq_true rfl) (Nat.le_of_ble_eq_true rfl) (by decide) (fun _ hq => wX11_restsIn v2 μ hq) h (fun q9 h => ?_)
      refine rw_iinc 100 [(0, .ref 243), (2, .int (v2 + 1))] dX11_weekGoes_100 1 rfl rfl (by decide) rfl ?_
      refine rw_goto 103 82 dX11_weekGoes_103 (by decide) ?_
      exact ih (v2 + 1) q9 h
set_option maxRecDepth 100000 in
theorem wX11_weekGoes_108     (K : Mem → Option (Mem)) {res : Mem} (hK : ∀  (μ : Mem), K μ = some res → RW mX11_weekGoes 6 NF NF 158 [(0, .ref 243)] [] (μ, Rf0, NF) (QN none res Rf0 NF)) : ∀ (n9 : Nat) (v2 : Int32) (μ : Mem), fX11_weekGoes_108 K n9 v2 μ = some res → RW mX11_weekGoes 6 NF NF 108 [(0, .ref 243), (2, .int v2)] [] (μ, Rf0, NF) (QN none res Rf0 NF) := by
  intro n9
  induction n9 with
  | zero => intro _ _ h; cases h
  | succ n ih =>
    intro v2 μ h
    unfold fX11_weekGoes_108 at h
    refine rw_iload_n 108 dX11_weekGoes_108 1 rfl ?_
    refine rw_aload_n 109 dX11_weekGoes_109 0 rfl ?_
    refine rw_getR 110 11 23 kc11 dX11_weekGoes_110 ly_243 rln_243 fX11_46 rfl rf_243_23 ?_
    refine rw_aload_n 113 dX11_weekGoes_113 0 rfl ?_
    refine rw_getI 114 11 18 kc11 dX11_weekGoes_114 ly_243 rln_243 fX11_236 rfl ?_
    refine rn_iald 117 dX11_weekGoes_117 ly_253 rln_253 h (fun h => ?_)
    refine rn_icmp_ge 118 158 dX11_weekGoes_118 (by decide) h (fun _ h => ?_) (fun _ h => ?_)
    · refine rw_pick 158 [0] rfl ?_
      exact hK μ h
    · refine rw_aload_n 121 dX11_weekGoes_121 0 rfl ?_
      refine rw_getR 122 11 51 kc11 dX11_weekGoes_122 ly_243 rln_243 fX11_119 rfl rf_243_51 ?_
      refine rw_bipush 125 (v := 21) dX11_weekGoes_125 (by decide) ?_
      refine rw_iload_n 127 dX11_weekGoes_127 1 rfl ?_
      refine rw_iadd 128 dX11_weekGoes_128 ?_
      refine rw_aload_n 129 dX11_weekGoes_129 0 rfl ?_
      refine rw_getR 130 11 51 kc11 dX11_weekGoes_130 ly_243 rln_243 fX11_119 rfl rf_243_51 ?_
      refine rw_bipush 133 (v := 21) dX11_weekGoes_133 (by decide) ?_
      refine rw_iload_n 135 dX11_weekGoes_135 1 rfl ?_
      refine rw_iadd 136 dX11_weekGoes_136 ?_
      refine rn_iald 137 dX11_weekGoes_137 ly_277 rln_277 h (fun h => ?_)
      refine rw_aload_n 138 dX11_weekGoes_138 0 rfl ?_
      refine rw_getR 139 11 55 kc11 dX11_weekGoes_139 ly_243 rln_243 fX11_125 rfl rf_243_55 ?_
      refine rw_iload_n 142 dX11_weekGoes_142 1 rfl ?_
      refine rn_iald 143 dX11_weekGoes_143 ly_279 rln_279 h (fun h => ?_)
      refine rw_iadd 144 dX11_weekGoes_144 ?_
      refine rw_iconst 145 (v := 0) dX11_weekGoes_145 (by decide) ?_
      refine rw_bipush 146 (v := 99) dX11_weekGoes_146 (by decide) ?_
      refine rn_cSpi 148 [.int ((μ.1 277 (21 + v2).toNatClampNeg) + (μ.1 279 v2.toNatClampNeg)), .int 0, .int 99] dX11_weekGoes_148 caX11_within lX11_343 stX11_within rfl naX11_within (Nat.le_of_ble_eq_true rfl) (Nat.le_of_ble_eq_true rfl) (by decide) (fun _ hq => wX11_within ((μ.1 277 (21 + v2).toNatClampNeg) + (μ.1 279 v2.toNatClampNeg)) 0 99 μ hq) h (fun q11 h => ?_)
      refine rn_iast 151 dX11_weekGoes_151 ly_277 rln_277 h (fun μ12 h => ?_)
      refine rw_iinc 152 [(0, .ref 243), (2, .int (v2 + 1))] dX11_weekGoes_152 1 rfl rfl (by decide) rfl ?_
      refine rw_goto 155 108 dX11_weekGoes_155 (by decide) ?_
      exact ih (v2 + 1) μ12 h
set_option maxRecDepth 100000 in
theorem wX11_weekGoes_160     (K : Mem → Option (Mem)) {res : Mem} (hK : ∀  (μ : Mem), K μ = some res → RW mX11_weekGoes 6 NF NF 184 [(0, .ref 243)] [] (μ, Rf0, NF) (QN none res Rf0 NF)) : ∀ (n9 : Nat) (v2 : Int32) (μ : Mem), fX11_weekGoes_160 K n9 v2 μ = some res → RW mX11_weekGoes 6 NF NF 160 [(0, .ref 243), (2, .int v2)] [] (μ, Rf0, NF) (QN none res Rf0 NF) := by
  intro n9
  induction n9 with
  | zero => intro _ _ h; cases h
  | succ n ih =>
    intro v2 μ h
    unfold fX11_weekGoes_160 at h
    refine rw_iload_n 160 dX11_weekGoes_160 1 rfl ?_
    refine rw_aload_n 161 dX11_weekGoes_161 0 rfl ?_
    refine rw_getR 162 11 26 kc11 dX11_weekGoes_162 ly_243 rln_243 fX11_55 rfl rf_243_26 ?_
    refine rw_aload_n 165 dX11_weekGoes_165 0 rfl ?_
    refine rw_getI 166 11 18 kc11 dX11_weekGoes_166 ly_243 rln_243 fX11_236 rfl ?_
    refine rn_iald 169 dX11_weekGoes_169 ly_256 rln_256 h (fun h => ?_)
    refine rn_icmp_ge 170 184 dX11_weekGoes_170 (by decide) h (fun _ h => ?_) (fun _ h => ?_)
    · refine rw_pick 184 [0] rfl ?_
      exact hK μ h
    · refine rw_aload_n 173 dX11_weekGoes_173 0 rfl ?_
      refine rw_iload_n 174 dX11_weekGoes_174 1 rfl ?_
      refine rn_cVmv 175 11 [.int v2] dX11_weekGoes_175 caX11_mayDie lX11_398 inX11_mayDie slX11_mayDie rfl ly_243 ⟨_, rfl, rfl⟩ rln_243 naX11_mayDie (Nat.le_of_ble_eq_true rfl) (Nat.le_of_ble_eq_true rfl) (by decide) (fun _ hq => wX11_mayDie v2 μ hq) h (fun q14 h => ?_)
      refine rw_iinc 178 [(0, .ref 243), (2, .int (v2 + 1))] dX11_weekGoes_178 1 rfl rfl (by decide) rfl ?_
      refine rw_goto 181 160 dX11_weekGoes_181 (by decide) ?_
      exact ih (v2 + 1) q14 h
set_option maxRecDepth 100000 in
theorem wX11_weekGoes  (μ : Mem) {res : Mem} (h : fX11_weekGoes  μ = some res) : Ct mX11_weekGoes 6 NF NF [.ref 243] (μ, Rf0, NF) (QN none res Rf0 NF) := by
  unfold fX11_weekGoes at h
  show RW mX11_weekGoes 6 NF NF 0 [(0, .ref 243)] [] (μ, Rf0, NF) (QN none res Rf0 NF)
  refine rw_aload_n 0 dX11_weekGoes_0 0 rfl ?_
  refine rn_cVmi 1 11 [] dX11_weekGoes_1 caX11_dueAll lX11_386 inX11_dueAll slX11_dueAll rfl ly_243 ⟨_, rfl, rfl⟩ rln_243 naX11_dueAll (Nat.le_of_ble_eq_true rfl) (Nat.le_of_ble_eq_true rfl) (by decide) (fun _ hq => wX11_dueAll μ hq) h (fun q1 h => ?_)
  refine rw_istore_n 4 [(0, .ref 243), (1, .int q1.1)] dX11_weekGoes_4 (by decide) rfl ?_
  refine rw_iconst 5 (v := 0) dX11_weekGoes_5 (by decide) ?_
  refine rw_istore_n 6 [(0, .ref 243), (1, .int q1.1), (2, .int 0)] dX11_weekGoes_6 (by decide) rfl ?_
  refine wX11_weekGoes_7 q1.1 _ (fun μ4 h => ?_) FU 0 q1.2 h
  refine rw_iconst 37 (v := 0) dX11_weekGoes_37 (by decide) ?_
  refine rw_istore_n 38 [(0, .ref 243), (1, .int q1.1), (2, .int 0)] dX11_weekGoes_38 (by decide) rfl ?_
  refine wX11_weekGoes_39 q1.1 _ (fun μ7 h => ?_) FU 0 μ4 h
  refine rw_aload_n 69 dX11_weekGoes_69 0 rfl ?_
  refine rw_getR 70 11 51 kc11 dX11_weekGoes_70 ly_243 rln_243 fX11_119 rfl rf_243_51 ?_
  refine rw_bipush 73 (v := 30) dX11_weekGoes_73 (by decide) ?_
  refine rw_dup2 75 dX11_weekGoes_75 rfl rfl ?_
  refine rn_ialdc 76 dX11_weekGoes_76 ly_277 rln_277 (by decide) (j := 30) (by decide) ?_
  refine rw_iload_n 77 dX11_weekGoes_77 1 rfl ?_
  refine rw_iadd 78 dX11_weekGoes_78 ?_
  refine rn_iastc 79 dX11_weekGoes_79 ly_277 rln_277 (by decide) (j := 30) (by decide) h (fun μ8 h => ?_)
  refine rw_iconst 80 (v := 0) dX11_weekGoes_80 (by decide) ?_
  refine rw_istore_n 81 [(0, .ref 243), (1, .int q1.1), (2, .int 0)] dX11_weekGoes_81 (by decide) rfl ?_
  refine rw_pick 82 [0, 2] rfl ?_
  refine wX11_weekGoes_82 _ (fun μ10 h => ?_) FU 0 μ8 h
  refine rw_iconst 106 (v := 0) dX11_weekGoes_106 (by decide) ?_
  refine rw_istore_n 107 [(0, .ref 243), (2, .int 0)] dX11_weekGoes_107 (by decide) rfl ?_
  refine wX11_weekGoes_108 _ (fun μ13 h => ?_) FU 0 μ10 h
  refine rw_iconst 158 (v := 0) dX11_weekGoes_158 (by decide) ?_
  refine rw_istore_n 159 [(0, .ref 243), (2, .int 0)] dX11_weekGoes_159 (by decide) rfl ?_
  refine wX11_weekGoes_160 _ (fun μ15 h => ?_) FU 0 μ13 h
  refine rw_aload_n 184 dX11_weekGoes_184 0 rfl ?_
  refine rw_getR 185 11 51 kc11 dX11_weekGoes_185 ly_243 rln_243 fX11_119 rfl rf_243_51 ?_
  refine rw_bipush 188 (v := 29) dX11_weekGoes_188 (by decide) ?_
  refine rw_dup2 190 dX11_weekGoes_190 rfl rfl ?_
  refine rn_ialdc 191 dX11_weekGoes_191 ly_277 rln_277 (by decide) (j := 29) (by decide) ?_
  refine rw_iconst 192 (v := 1) dX11_weekGoes_192 (by decide) ?_
  refine rw_iadd 193 dX11_weekGoes_193 ?_
  refine rn_iastc 194 dX11_weekGoes_194 ly_277 rln_277 (by decide) (j := 29) (by decide) h (fun μ16 h => ?_)
  exact rn_vret 195 dX11_weekGoes_195 rfl h
def fX11_goes_2   (v1 : Int32)  (K : Mem → Option (Mem)) : Nat → Int32 → Mem → Option (Mem)
  | 0, _, _ => none
  | n + 1, v2, μ =>
    if v2 < v1 then
      (fX11_weekGoes μ).bind fun q1 =>
      fX11_goes_2 v1 K n (v2 + 1) q1
    else
      K μ
def fX11_goes (a1 : Int32) (μ : Mem) : Option (Mem) :=
  fX11_goes_2 a1 (fun μ2 =>
      some μ2
  ) FU 0 μ
set_option maxRecDepth 100000 in
theorem wX11_goes_2   (v1 : Int32)  (K : Mem → Option (Mem)) {res : Mem} (hK : ∀  (μ : Mem), K μ = some res → RW mX11_goes 7 NF NF 17 [] [] (μ, Rf0, NF) (QN none res Rf0 NF)) : ∀ (n9 : Nat) (v2 : Int32) (μ : Mem), fX11_goes_2 v1 K n9 v2 μ = some res → RW mX11_goes 7 NF NF 2 [(0, .ref 243), (1, .int v1), (2, .int v2)] [] (μ, Rf0, NF) (QN none res Rf0 NF) := by
  intro n9
  induction n9 with
  | zero => intro _ _ h; cases h
  | succ n ih =>
    intro v2 μ h
    unfold fX11_goes_2 at h
    refine rw_iload_n 2 dX11_goes_2 2 rfl ?_
    refine rw_iload_n 3 dX11_goes_3 1 rfl ?_
    refine rn_icmp_ge 4 17 dX11_goes_4 (by decide) h (fun _ h => ?_) (fun _ h => ?_)
    · refine rw_pick 17 [] rfl ?_
      exact hK μ h
    · refine rw_aload_n 7 dX11_goes_7 0 rfl ?_
      refine rn_cVmv 8 11 [] dX11_goes_8 caX11_weekGoes lX11_401 inX11_weekGoes slX11_weekGoes rfl ly_243 ⟨_, rfl, rfl⟩ rln_243 naX11_weekGoes (Nat.le_of_ble_eq_true rfl) (Nat.le_of_ble_eq_true rfl) (by decide) (fun _ hq => wX11_weekGoes μ hq) h (fun q1 h => ?_)
      refine rw_iinc 11 [(0, .ref 243), (1, .int v1), (2, .int (v2 + 1))] dX11_goes_11 2 rfl rfl (by decide) rfl ?_
      refine rw_goto 14 2 dX11_goes_14 (by decide) ?_
      exact ih (v2 + 1) q1 h
set_option maxRecDepth 100000 in
theorem wX11_goes (a1 : Int32) (μ : Mem) {res : Mem} (h : fX11_goes a1 μ = some res) : Ct mX11_goes 7 NF NF [.ref 243, .int a1] (μ, Rf0, NF) (QN none res Rf0 NF) := by
  unfold fX11_goes at h
  show RW mX11_goes 7 NF NF 0 [(0, .ref 243), (1, .int a1)] [] (μ, Rf0, NF) (QN none res Rf0 NF)
  refine rw_iconst 0 (v := 0) dX11_goes_0 (by decide) ?_
  refine rw_istore_n 1 [(0, .ref 243), (1, .int a1), (2, .int 0)] dX11_goes_1 (by decide) rfl ?_
  refine wX11_goes_2 a1 _ (fun μ2 h => ?_) FU 0 μ h
  exact rn_vret 17 dX11_goes_17 rfl h
def fX11_sunday (a1 : Int32) (a2 : Int32) (μ : Mem) : Option (Int32 × Mem) :=
  (fX11_isSunday a1 μ).bind fun q1 =>
  if q1 = true then
    (fX11_copies μ).bind fun q2 =>
    if a2 = 0 then
      if inb ((4 * (q2.1 243 18)) + a1) 8 then
      some ((q2.1 254 ((4 * (q2.1 243 18)) + a1).toNatClampNeg), q2)
      else none
    else
    if a2 = 1 then
      if inb ((4 * (q2.1 243 18)) + a1) 8 then
      some ((q2.1 255 ((4 * (q2.1 243 18)) + a1).toNatClampNeg), q2)
      else none
    else
    if a2 = 2 then
      if inb (21 + a1) 31 then
      some ((q2.1 277 (21 + a1).toNatClampNeg), q2)
      else none
    else
    if a2 = 3 then
      if inb (25 + a1) 31 then
      some ((q2.1 277 (25 + a1).toNatClampNeg), q2)
      else none
    else
    if a2 = 4 then
      (fX11_guestBits a1 q2).bind fun q8 =>
      some (q8, q2)
    else
    if a2 = 5 then
      (fX11_wearsOf a1 q2).bind fun q10 =>
      some (q10.1, q10.2)
    else
    if a2 = 6 then
      (fX11_sellsOf a1 q2).bind fun q12 =>
      some (q12.1, q12.2)
    else
      some ((-1), q2)
  else
    some ((-1), μ)
set_option maxRecDepth 100000 in
theorem wX11_sunday (a1 : Int32) (a2 : Int32) (μ : Mem) {res : Int32 × Mem} (h : fX11_sunday a1 a2 μ = some res) : Ct mX11_sunday 4 NF NF [.ref 243, .int a1, .int a2] (μ, Rf0, NF) (QN (some (.int res.1)) res.2 Rf0 NF) := by
  unfold fX11_sunday at h
  show RW mX11_sunday 4 NF NF 0 [(0, .ref 243), (1, .int a1), (2, .int a2)] [] (μ, Rf0, NF) (QN (some (.int res.1)) res.2 Rf0 NF)
  refine rw_aload_n 0 dX11_sunday_0 0 rfl ?_
  refine rw_iload_n 1 dX11_sunday_1 1 rfl ?_
  refine rn_cVpb 2 11 [.int a1] dX11_sunday_2 caX11_isSunday lX11_404 inX11_isSunday slX11_isSunday rfl ly_243 ⟨_, rfl, rfl⟩ rln_243 naX11_isSunday (Nat.le_of_ble_eq_true rfl) (Nat.le_of_ble_eq_true rfl) (by decide) (fun _ hq => wX11_isSunday a1 μ hq) h (fun q1 h => ?_)
  refine rn_ifb_ne 5 10 dX11_sunday_5 (by decide) h (fun _ h => ?_) (fun _ h => ?_)
  · refine rw_aload_n 10 dX11_sunday_10 0 rfl ?_
    refine rn_cVmv 11 11 [] dX11_sunday_11 caX11_copies lX11_326 inX11_copies slX11_copies rfl ly_243 ⟨_, rfl, rfl⟩ rln_243 naX11_copies (Nat.le_of_ble_eq_true rfl) (Nat.le_of_ble_eq_true rfl) (by decide) (fun _ hq => wX11_copies μ hq) h (fun q2 h => ?_)
    refine rw_iload_n 14 dX11_sunday_14 2 rfl ?_
    rcases if_b h with ⟨c3, h⟩ | ⟨c3, h⟩
    · refine rn_tab 15 0 56 dX11_sunday_15 c3 (by decide) (by decide) rfl (by decide) ?_
      refine rw_aload_n 56 dX11_sunday_56 0 rfl ?_
      refine rw_getR 57 11 24 kc11 dX11_sunday_57 ly_243 rln_243 fX11_49 rfl rf_243_24 ?_
      refine rw_iconst 60 (v := 4) dX11_sunday_60 (by decide) ?_
      refine rw_aload_n 61 dX11_sunday_61 0 rfl ?_
      refine rw_getI 62 11 18 kc11 dX11_sunday_62 ly_243 rln_243 fX11_236 rfl ?_
      refine rw_imul 65 dX11_sunday_65 ?_
      refine rw_iload_n 66 dX11_sunday_66 1 rfl ?_
      refine rw_iadd 67 dX11_sunday_67 ?_
      refine rn_iald 68 dX11_sunday_68 ly_254 rln_254 h (fun h => ?_)
      exact rn_iret2 69 dX11_sunday_69 rfl h
    · rcases if_b h with ⟨c4, h⟩ | ⟨c4, h⟩
      · refine rn_tab 15 1 70 dX11_sunday_15 c4 (by decide) (by decide) rfl (by decide) ?_
        refine rw_aload_n 70 dX11_sunday_70 0 rfl ?_
        refine rw_getR 71 11 25 kc11 dX11_sunday_71 ly_243 rln_243 fX11_52 rfl rf_243_25 ?_
        refine rw_iconst 74 (v := 4) dX11_sunday_74 (by decide) ?_
        refine rw_aload_n 75 dX11_sunday_75 0 rfl ?_
        refine rw_getI 76 11 18 kc11 dX11_sunday_76 ly_243 rln_243 fX11_236 rfl ?_
        refine rw_imul 79 dX11_sunday_79 ?_
        refine rw_iload_n 80 dX11_sunday_80 1 rfl ?_
        refine rw_iadd 81 dX11_sunday_81 ?_
        refine rn_iald 82 dX11_sunday_82 ly_255 rln_255 h (fun h => ?_)
        exact rn_iret2 83 dX11_sunday_83 rfl h
      · rcases if_b h with ⟨c5, h⟩ | ⟨c5, h⟩
        · refine rn_tab 15 2 84 dX11_sunday_15 c5 (by decide) (by decide) rfl (by decide) ?_
          refine rw_aload_n 84 dX11_sunday_84 0 rfl ?_
          refine rw_getR 85 11 51 kc11 dX11_sunday_85 ly_243 rln_243 fX11_119 rfl rf_243_51 ?_
          refine rw_bipush 88 (v := 21) dX11_sunday_88 (by decide) ?_
          refine rw_iload_n 90 dX11_sunday_90 1 rfl ?_
          refine rw_iadd 91 dX11_sunday_91 ?_
          refine rn_iald 92 dX11_sunday_92 ly_277 rln_277 h (fun h => ?_)
          exact rn_iret2 93 dX11_sunday_93 rfl h
        · rcases if_b h with ⟨c6, h⟩ | ⟨c6, h⟩
          · refine rn_tab 15 3 94 dX11_sunday_15 c6 (by decide) (by decide) rfl (by decide) ?_
            refine rw_aload_n 94 dX11_sunday_94 0 rfl ?_
            refine rw_getR 95 11 51 kc11 dX11_sunday_95 ly_243 rln_243 fX11_119 rfl rf_243_51 ?_
            refine rw_bipush 98 (v := 25) dX11_sunday_98 (by decide) ?_
            refine rw_iload_n 100 dX11_sunday_100 1 rfl ?_
            refine rw_iadd 101 dX11_sunday_101 ?_
            refine rn_iald 102 dX11_sunday_102 ly_277 rln_277 h (fun h => ?_)
            exact rn_iret2 103 dX11_sunday_103 rfl h
          · rcases if_b h with ⟨c7, h⟩ | ⟨c7, h⟩
            · refine rn_tab 15 4 104 dX11_sunday_15 c7 (by decide) (by decide) rfl (by decide) ?_
              refine rw_aload_n 104 dX11_sunday_104 0 rfl ?_
              refine rw_iload_n 105 dX11_sunday_105 1 rfl ?_
              refine rn_cVpi 106 11 [.int a1] dX11_sunday_106 caX11_guestBits lX11_362 inX11_guestBits slX11_guestBits rfl ly_243 ⟨_, rfl, rfl⟩ rln_243 naX11_guestBits (Nat.le_of_ble_eq_true rfl) (Nat.le_of_ble_eq_true rfl) (by decide) (fun _ hq => wX11_guestBits a1 q2 hq) h (fun q8 h => ?_)
              exact rn_iret2 109 dX11_sunday_109 rfl h
            · rcases if_b h with ⟨c9, h⟩ | ⟨c9, h⟩
              · refine rn_tab 15 5 110 dX11_sunday_15 c9 (by decide) (by decide) rfl (by decide) ?_
                refine rw_aload_n 110 dX11_sunday_110 0 rfl ?_
                refine rw_iload_n 111 dX11_sunday_111 1 rfl ?_
                refine rn_cVmi 112 11 [.int a1] dX11_sunday_112 caX11_wearsOf lX11_392 inX11_wearsOf slX11_wearsOf rfl ly_243 ⟨_, rfl, rfl⟩ rln_243 naX11_wearsOf (Nat.le_of_ble_eq_true rfl) (Nat.le_of_ble_eq_true rfl) (by decide) (fun _ hq => wX11_wearsOf a1 q2 hq) h (fun q10 h => ?_)
                exact rn_iret2 115 dX11_sunday_115 rfl h
              · rcases if_b h with ⟨c11, h⟩ | ⟨c11, h⟩
                · refine rn_tab 15 6 116 dX11_sunday_15 c11 (by decide) (by decide) rfl (by decide) ?_
                  refine rw_aload_n 116 dX11_sunday_116 0 rfl ?_
                  refine rw_iload_n 117 dX11_sunday_117 1 rfl ?_
                  refine rn_cVmi 118 11 [.int a1] dX11_sunday_118 caX11_sellsOf lX11_407 inX11_sellsOf slX11_sellsOf rfl ly_243 ⟨_, rfl, rfl⟩ rln_243 naX11_sellsOf (Nat.le_of_ble_eq_true rfl) (Nat.le_of_ble_eq_true rfl) (by decide) (fun _ hq => wX11_sellsOf a1 q2 hq) h (fun q12 h => ?_)
                  exact rn_iret2 121 dX11_sunday_121 rfl h
                · refine rw_tabOut 15 (x := a2) 122 dX11_sunday_15 (by have := ne_int c3 (k := 0) (by decide); have := ne_int c4 (k := 1) (by decide); have := ne_int c5 (k := 2) (by decide); have := ne_int c6 (k := 3) (by decide); have := ne_int c7 (k := 4) (by decide); have := ne_int c9 (k := 5) (by decide); have := ne_int c11 (k := 6) (by decide); omega) (by decide) ?_
                  refine rw_iconst 122 (v := -1) dX11_sunday_122 (by decide) ?_
                  exact rn_iret2 123 dX11_sunday_123 rfl h
  · refine rw_iconst 8 (v := -1) dX11_sunday_8 (by decide) ?_
    exact rn_iret2 9 dX11_sunday_9 rfl h
def fX11_guest (a1 : Int32) (a2 : Int32) (μ : Mem) : Option (Int32 × Mem) :=
  (fX11_isGuest a1 μ).bind fun q1 =>
  if q1 = true then
    (fX11_copies μ).bind fun q2 =>
    if a2 = 0 then
      (fX11_fromAt a1 q2).bind fun q4 =>
      some (q4, q2)
    else
    if a2 = 1 then
      if inb ((7 * (q2.1 243 18)) + a1) 14 then
      some ((q2.1 258 ((7 * (q2.1 243 18)) + a1).toNatClampNeg), q2)
      else none
    else
    if a2 = 2 then
      if inb ((7 * (q2.1 243 18)) + a1) 14 then
      some ((q2.1 259 ((7 * (q2.1 243 18)) + a1).toNatClampNeg), q2)
      else none
    else
    if a2 = 3 then
      if inb a1 31 then
      some ((q2.1 277 a1.toNatClampNeg), q2)
      else none
    else
    if a2 = 4 then
      if inb (7 + a1) 31 then
      some ((q2.1 277 (7 + a1).toNatClampNeg), q2)
      else none
    else
    if a2 = 5 then
      if inb (14 + a1) 31 then
      some ((q2.1 277 (14 + a1).toNatClampNeg), q2)
      else none
    else
    if a2 = 6 then
      (fX11_paysOf a1 q2).bind fun q11 =>
      some (q11.1, q11.2)
    else
    if a2 = 7 then
      (fX11_restsOf a1 q2).bind fun q13 =>
      some (q13.1, q13.2)
    else
      some ((-1), q2)
  else
    some ((-1), μ)
set_option maxRecDepth 100000 in
theorem wX11_guest (a1 : Int32) (a2 : Int32) (μ : Mem) {res : Int32 × Mem} (h : fX11_guest a1 a2 μ = some res) : Ct mX11_guest 5 NF NF [.ref 243, .int a1, .int a2] (μ, Rf0, NF) (QN (some (.int res.1)) res.2 Rf0 NF) := by
  unfold fX11_guest at h
  show RW mX11_guest 5 NF NF 0 [(0, .ref 243), (1, .int a1), (2, .int a2)] [] (μ, Rf0, NF) (QN (some (.int res.1)) res.2 Rf0 NF)
  refine rw_aload_n 0 dX11_guest_0 0 rfl ?_
  refine rw_iload_n 1 dX11_guest_1 1 rfl ?_
  refine rn_cVpb 2 11 [.int a1] dX11_guest_2 caX11_isGuest lX11_410 inX11_isGuest slX11_isGuest rfl ly_243 ⟨_, rfl, rfl⟩ rln_243 naX11_isGuest (Nat.le_of_ble_eq_true rfl) (Nat.le_of_ble_eq_true rfl) (by decide) (fun _ hq => wX11_isGuest a1 μ hq) h (fun q1 h => ?_)
  refine rn_ifb_ne 5 10 dX11_guest_5 (by decide) h (fun _ h => ?_) (fun _ h => ?_)
  · refine rw_aload_n 10 dX11_guest_10 0 rfl ?_
    refine rn_cVmv 11 11 [] dX11_guest_11 caX11_copies lX11_326 inX11_copies slX11_copies rfl ly_243 ⟨_, rfl, rfl⟩ rln_243 naX11_copies (Nat.le_of_ble_eq_true rfl) (Nat.le_of_ble_eq_true rfl) (by decide) (fun _ hq => wX11_copies μ hq) h (fun q2 h => ?_)
    refine rw_iload_n 14 dX11_guest_14 2 rfl ?_
    rcases if_b h with ⟨c3, h⟩ | ⟨c3, h⟩
    · refine rn_tab 15 0 60 dX11_guest_15 c3 (by decide) (by decide) rfl (by decide) ?_
      refine rw_aload_n 60 dX11_guest_60 0 rfl ?_
      refine rw_iload_n 61 dX11_guest_61 1 rfl ?_
      refine rn_cVpi 62 11 [.int a1] dX11_guest_62 caX11_fromAt lX11_333 inX11_fromAt slX11_fromAt rfl ly_243 ⟨_, rfl, rfl⟩ rln_243 naX11_fromAt (Nat.le_of_ble_eq_true rfl) (Nat.le_of_ble_eq_true rfl) (by decide) (fun _ hq => wX11_fromAt a1 q2 hq) h (fun q4 h => ?_)
      exact rn_iret2 65 dX11_guest_65 rfl h
    · rcases if_b h with ⟨c5, h⟩ | ⟨c5, h⟩
      · refine rn_tab 15 1 66 dX11_guest_15 c5 (by decide) (by decide) rfl (by decide) ?_
        refine rw_aload_n 66 dX11_guest_66 0 rfl ?_
        refine rw_getR 67 11 28 kc11 dX11_guest_67 ly_243 rln_243 fX11_61 rfl rf_243_28 ?_
        refine rw_bipush 70 (v := 7) dX11_guest_70 (by decide) ?_
        refine rw_aload_n 72 dX11_guest_72 0 rfl ?_
        refine rw_getI 73 11 18 kc11 dX11_guest_73 ly_243 rln_243 fX11_236 rfl ?_
        refine rw_imul 76 dX11_guest_76 ?_
        refine rw_iload_n 77 dX11_guest_77 1 rfl ?_
        refine rw_iadd 78 dX11_guest_78 ?_
        refine rn_iald 79 dX11_guest_79 ly_258 rln_258 h (fun h => ?_)
        exact rn_iret2 80 dX11_guest_80 rfl h
      · rcases if_b h with ⟨c6, h⟩ | ⟨c6, h⟩
        · refine rn_tab 15 2 81 dX11_guest_15 c6 (by decide) (by decide) rfl (by decide) ?_
          refine rw_aload_n 81 dX11_guest_81 0 rfl ?_
          refine rw_getR 82 11 29 kc11 dX11_guest_82 ly_243 rln_243 fX11_64 rfl rf_243_29 ?_
          refine rw_bipush 85 (v := 7) dX11_guest_85 (by decide) ?_
          refine rw_aload_n 87 dX11_guest_87 0 rfl ?_
          refine rw_getI 88 11 18 kc11 dX11_guest_88 ly_243 rln_243 fX11_236 rfl ?_
          refine rw_imul 91 dX11_guest_91 ?_
          refine rw_iload_n 92 dX11_guest_92 1 rfl ?_
          refine rw_iadd 93 dX11_guest_93 ?_
          refine rn_iald 94 dX11_guest_94 ly_259 rln_259 h (fun h => ?_)
          exact rn_iret2 95 dX11_guest_95 rfl h
        · rcases if_b h with ⟨c7, h⟩ | ⟨c7, h⟩
          · refine rn_tab 15 3 96 dX11_guest_15 c7 (by decide) (by decide) rfl (by decide) ?_
            refine rw_aload_n 96 dX11_guest_96 0 rfl ?_
            refine rw_getR 97 11 51 kc11 dX11_guest_97 ly_243 rln_243 fX11_119 rfl rf_243_51 ?_
            refine rw_iload_n 100 dX11_guest_100 1 rfl ?_
            refine rn_iald 101 dX11_guest_101 ly_277 rln_277 h (fun h => ?_)
            exact rn_iret2 102 dX11_guest_102 rfl h
          · rcases if_b h with ⟨c8, h⟩ | ⟨c8, h⟩
            · refine rn_tab 15 4 103 dX11_guest_15 c8 (by decide) (by decide) rfl (by decide) ?_
              refine rw_aload_n 103 dX11_guest_103 0 rfl ?_
              refine rw_getR 104 11 51 kc11 dX11_guest_104 ly_243 rln_243 fX11_119 rfl rf_243_51 ?_
              refine rw_bipush 107 (v := 7) dX11_guest_107 (by decide) ?_
              refine rw_iload_n 109 dX11_guest_109 1 rfl ?_
              refine rw_iadd 110 dX11_guest_110 ?_
              refine rn_iald 111 dX11_guest_111 ly_277 rln_277 h (fun h => ?_)
              exact rn_iret2 112 dX11_guest_112 rfl h
            · rcases if_b h with ⟨c9, h⟩ | ⟨c9, h⟩
              · refine rn_tab 15 5 113 dX11_guest_15 c9 (by decide) (by decide) rfl (by decide) ?_
                refine rw_aload_n 113 dX11_guest_113 0 rfl ?_
                refine rw_getR 114 11 51 kc11 dX11_guest_114 ly_243 rln_243 fX11_119 rfl rf_243_51 ?_
                refine rw_bipush 117 (v := 14) dX11_guest_117 (by decide) ?_
                refine rw_iload_n 119 dX11_guest_119 1 rfl ?_
                refine rw_iadd 120 dX11_guest_120 ?_
                refine rn_iald 121 dX11_guest_121 ly_277 rln_277 h (fun h => ?_)
                exact rn_iret2 122 dX11_guest_122 rfl h
              · rcases if_b h with ⟨c10, h⟩ | ⟨c10, h⟩
                · refine rn_tab 15 6 123 dX11_guest_15 c10 (by decide) (by decide) rfl (by decide) ?_
                  refine rw_aload_n 123 dX11_guest_123 0 rfl ?_
                  refine rw_iload_n 124 dX11_guest_124 1 rfl ?_
                  refine rn_cVmi 125 11 [.int a1] dX11_guest_125 caX11_paysOf lX11_380 inX11_paysOf slX11_paysOf rfl ly_243 ⟨_, rfl, rfl⟩ rln_243 naX11_paysOf (Nat.le_of_ble_eq_true rfl) (Nat.le_of_ble_eq_true rfl) (by decide) (fun _ hq => wX11_paysOf a1 q2 hq) h (fun q11 h => ?_)
                  exact rn_iret2 128 dX11_guest_128 rfl h
                · rcases if_b h with ⟨c12, h⟩ | ⟨c12, h⟩
                  · refine rn_tab 15 7 129 dX11_guest_15 c12 (by decide) (by decide) rfl (by decide) ?_
                    refine rw_aload_n 129 dX11_guest_129 0 rfl ?_
                    refine rw_iload_n 130 dX11_guest_130 1 rfl ?_
                    refine rn_cVmi 131 11 [.int a1] dX11_guest_131 caX11_restsOf lX11_389 inX11_restsOf slX11_restsOf rfl ly_243 ⟨_, rfl, rfl⟩ rln_243 naX11_restsOf (Nat.le_of_ble_eq_true rfl) (Nat.le_of_ble_eq_true rfl) (by decide) (fun _ hq => wX11_restsOf a1 q2 hq) h (fun q13 h => ?_)
                    exact rn_iret2 134 dX11_guest_134 rfl h
                  · refine rw_tabOut 15 (x := a2) 135 dX11_guest_15 (by have := ne_int c3 (k := 0) (by decide); have := ne_int c5 (k := 1) (by decide); have := ne_int c6 (k := 2) (by decide); have := ne_int c7 (k := 3) (by decide); have := ne_int c8 (k := 4) (by decide); have := ne_int c9 (k := 5) (by decide); have := ne_int c10 (k := 6) (by decide); have := ne_int c12 (k := 7) (by decide); omega) (by decide) ?_
                    refine rw_iconst 135 (v := -1) dX11_guest_135 (by decide) ?_
                    exact rn_iret2 136 dX11_guest_136 rfl h
  · refine rw_iconst 8 (v := -1) dX11_guest_8 (by decide) ?_
    exact rn_iret2 9 dX11_guest_9 rfl h
def fX11_at (a1 : Int32) (a2 : Int32) (μ : Mem) : Option (Int32 × Mem) :=
  (fX11_isSunday a1 μ).bind fun q1 =>
  if q1 = true then
    if inb ((4 * (μ.1 243 18)) + a1) 8 then
    (fX11_in a2 0 ((μ.1 254 ((4 * (μ.1 243 18)) + a1).toNatClampNeg) - 1) μ).bind fun q2 =>
    if q2 = true then
      (fX11_copies μ).bind fun q3 =>
      (fX11_whoIsAt a1 a2 q3).bind fun q4 =>
      some (q4, q3)
    else
      some ((-1), μ)
    else none
  else
    some ((-1), μ)
set_option maxRecDepth 100000 in
theorem wX11_at (a1 : Int32) (a2 : Int32) (μ : Mem) {res : Int32 × Mem} (h : fX11_at a1 a2 μ = some res) : Ct mX11_at 3 NF NF [.ref 243, .int a1, .int a2] (μ, Rf0, NF) (QN (some (.int res.1)) res.2 Rf0 NF) := by
  unfold fX11_at at h
  show RW mX11_at 3 NF NF 0 [(0, .ref 243), (1, .int a1), (2, .int a2)] [] (μ, Rf0, NF) (QN (some (.int res.1)) res.2 Rf0 NF)
  refine rw_aload_n 0 dX11_at_0 0 rfl ?_
  refine rw_iload_n 1 dX11_at_1 1 rfl ?_
  refine rn_cVpb 2 11 [.int a1] dX11_at_2 caX11_isSunday lX11_404 inX11_isSunday slX11_isSunday rfl ly_243 ⟨_, rfl, rfl⟩ rln_243 naX11_isSunday (Nat.le_of_ble_eq_true rfl) (Nat.le_of_ble_eq_true rfl) (by decide) (fun _ hq => wX11_isSunday a1 μ hq) h (fun q1 h => ?_)
  refine rn_ifb_eq 5 31 dX11_at_5 (by decide) h (fun _ h => ?_) (fun _ h => ?_)
  · refine rw_iconst 31 (v := -1) dX11_at_31 (by decide) ?_
    exact rn_iret2 32 dX11_at_32 rfl h
  · refine rw_iload_n 8 dX11_at_8 2 rfl ?_
    refine rw_iconst 9 (v := 0) dX11_at_9 (by decide) ?_
    refine rw_aload_n 10 dX11_at_10 0 rfl ?_
    refine rw_getR 11 11 24 kc11 dX11_at_11 ly_243 rln_243 fX11_49 rfl rf_243_24 ?_
    refine rw_iconst 14 (v := 4) dX11_at_14 (by decide) ?_
    refine rw_aload_n 15 dX11_at_15 0 rfl ?_
    refine rw_getI 16 11 18 kc11 dX11_at_16 ly_243 rln_243 fX11_236 rfl ?_
    refine rw_imul 19 dX11_at_19 ?_
    refine rw_iload_n 20 dX11_at_20 1 rfl ?_
    refine rw_iadd 21 dX11_at_21 ?_
    refine rn_iald 22 dX11_at_22 ly_254 rln_254 h (fun h => ?_)
    refine rw_iconst 23 (v := 1) dX11_at_23 (by decide) ?_
    refine rw_isub 24 dX11_at_24 ?_
    refine rn_cSpb 25 [.int a2, .int 0, .int ((μ.1 254 ((4 * (μ.1 243 18)) + a1).toNatClampNeg) - 1)] dX11_at_25 caX11_in lX11_316 stX11_in rfl naX11_in (Nat.le_of_ble_eq_true rfl) (Nat.le_of_ble_eq_true rfl) (by decide) (fun _ hq => wX11_in a2 0 ((μ.1 254 ((4 * (μ.1 243 18)) + a1).toNatClampNeg) - 1) μ hq) h (fun q2 h => ?_)
    refine rn_ifb_ne 28 33 dX11_at_28 (by decide) h (fun _ h => ?_) (fun _ h => ?_)
    · refine rw_aload_n 33 dX11_at_33 0 rfl ?_
      refine rn_cVmv 34 11 [] dX11_at_34 caX11_copies lX11_326 inX11_copies slX11_copies rfl ly_243 ⟨_, rfl, rfl⟩ rln_243 naX11_copies (Nat.le_of_ble_eq_true rfl) (Nat.le_of_ble_eq_true rfl) (by decide) (fun _ hq => wX11_copies μ hq) h (fun q3 h => ?_)
      refine rw_aload_n 37 dX11_at_37 0 rfl ?_
      refine rw_iload_n 38 dX11_at_38 1 rfl ?_
      refine rw_iload_n 39 dX11_at_39 2 rfl ?_
      refine rn_cVpi 40 11 [.int a1, .int a2] dX11_at_40 caX11_whoIsAt lX11_413 inX11_whoIsAt slX11_whoIsAt rfl ly_243 ⟨_, rfl, rfl⟩ rln_243 naX11_whoIsAt (Nat.le_of_ble_eq_true rfl) (Nat.le_of_ble_eq_true rfl) (by decide) (fun _ hq => wX11_whoIsAt a1 a2 q3 hq) h (fun q4 h => ?_)
      exact rn_iret2 43 dX11_at_43 rfl h
    · refine rw_iconst 31 (v := -1) dX11_at_31 (by decide) ?_
      exact rn_iret2 32 dX11_at_32 rfl h
def fX11_records_51     (K : Mem → Option (Mem)) : Nat → Int32 → Mem → Option (Mem)
  | 0, _, _ => none
  | n + 1, v1, μ =>
    if v1 < 31 then
      if inb v1 31 then
      if inb ((31 * (μ.1 243 56)) + v1) 1240 then nm (wI μ 280 ((31 * (μ.1 243 56)) + v1).toNatClampNeg (μ.1 276 v1.toNatClampNeg)) fun μ1 =>
      fX11_records_51 K n (v1 + 1) μ1
      else none
      else none
    else
      K μ
def fX11_records_11     (K : Mem → Option (Mem)) : Nat → Int32 → Mem → Option (Mem)
  | 0, _, _ => none
  | n + 1, v1, μ =>
    if v1 < 1209 then
      if inb (v1 + 31) 1240 then
      if inb v1 1240 then nm (wI μ 280 v1.toNatClampNeg (μ.1 280 (v1 + 31).toNatClampNeg)) fun μ5 =>
      fX11_records_11 K n (v1 + 1) μ5
      else none
      else none
    else
      K μ
def fX11_records  (μ : Mem) : Option (Mem) :=
  if (μ.1 243 56) = 40 then
    fX11_records_11  (fun μ6 =>
        nm (wI μ6 243 56 ((μ6.1 243 56) - 1)) fun μ7 =>
        fX11_records_51  (fun μ8 =>
            nm (wI μ8 243 56 ((μ8.1 243 56) + 1)) fun μ9 =>
            (fX11_keepsRow μ9).bind fun q10 =>
            some q10
        ) FU 0 μ7
    ) FU 0 μ
  else
    fX11_records_51  (fun μ2 =>
        nm (wI μ2 243 56 ((μ2.1 243 56) + 1)) fun μ3 =>
        (fX11_keepsRow μ3).bind fun q4 =>
        some q4
    ) FU 0 μ
set_option maxRecDepth 100000 in
theorem wX11_records_51     (K : Mem → Option (Mem)) {res : Mem} (hK : ∀  (μ : Mem), K μ = some res → RW mX11_records 2 NF NF 83 [(0, .ref 243)] [] (μ, Rf0, NF) (QN none res Rf0 NF)) : ∀ (n9 : Nat) (v1 : Int32) (μ : Mem), fX11_records_51 K n9 v1 μ = some res → RW mX11_records 2 NF NF 51 [(0, .ref 243), (1, .int v1)] [] (μ, Rf0, NF) (QN none res Rf0 NF) := by
  intro n9
  induction n9 with
  | zero => intro _ _ h; cases h
  | succ n ih =>
    intro v1 μ h
    unfold fX11_records_51 at h
    refine rw_iload_n 51 dX11_records_51 1 rfl ?_
    refine rw_bipush 52 (v := 31) dX11_records_52 (by decide) ?_
    refine rn_icmp_ge 54 83 dX11_records_54 (by decide) h (fun _ h => ?_) (fun _ h => ?_)
    · refine rw_pick 83 [0] rfl ?_
      exact hK μ h
    · refine rw_aload_n 57 dX11_records_57 0 rfl ?_
      refine rw_getR 58 11 57 kc11 dX11_records_58 ly_243 rln_243 fX11_128 rfl rf_243_57 ?_
      refine rw_bipush 61 (v := 31) dX11_records_61 (by decide) ?_
      refine rw_aload_n 63 dX11_records_63 0 rfl ?_
      refine rw_getI 64 11 56 kc11 dX11_records_64 ly_243 rln_243 fX11_254 rfl ?_
      refine rw_imul 67 dX11_records_67 ?_
      refine rw_iload_n 68 dX11_records_68 1 rfl ?_
      refine rw_iadd 69 dX11_records_69 ?_
      refine rw_aload_n 70 dX11_records_70 0 rfl ?_
      refine rw_getR 71 11 50 kc11 dX11_records_71 ly_243 rln_243 fX11_116 rfl rf_243_50 ?_
      refine rw_iload_n 74 dX11_records_74 1 rfl ?_
      refine rn_iald 75 dX11_records_75 ly_276 rln_276 h (fun h => ?_)
      refine rn_iast 76 dX11_records_76 ly_280 rln_280 h (fun μ1 h => ?_)
      refine rw_iinc 77 [(0, .ref 243), (1, .int (v1 + 1))] dX11_records_77 1 rfl rfl (by decide) rfl ?_
      refine rw_goto 80 51 dX11_records_80 (by decide) ?_
      exact ih (v1 + 1) μ1 h
set_option maxRecDepth 100000 in
theorem wX11_records_11     (K : Mem → Option (Mem)) {res : Mem} (hK : ∀  (μ : Mem), K μ = some res → RW mX11_records 2 NF NF 39 [(0, .ref 243)] [] (μ, Rf0, NF) (QN none res Rf0 NF)) : ∀ (n9 : Nat) (v1 : Int32) (μ : Mem), fX11_records_11 K n9 v1 μ = some res → RW mX11_records 2 NF NF 11 [(0, .ref 243), (1, .int v1)] [] (μ, Rf0, NF) (QN none res Rf0 NF) := by
  intro n9
  induction n9 with
  | zero => intro _ _ h; cases h
  | succ n ih =>
    intro v1 μ h
    unfold fX11_records_11 at h
    refine rw_iload_n 11 dX11_records_11 1 rfl ?_
    refine rw_sipush 12 (v := 1209) dX11_records_12 (by decide) ?_
    refine rn_icmp_ge 15 39 dX11_records_15 (by decide) h (fun _ h => ?_) (fun _ h => ?_)
    · refine rw_pick 39 [0] rfl ?_
      exact hK μ h
    · refine rw_aload_n 18 dX11_records_18 0 rfl ?_
      refine rw_getR 19 11 57 kc11 dX11_records_19 ly_243 rln_243 fX11_128 rfl rf_243_57 ?_
      refine rw_iload_n 22 dX11_records_22 1 rfl ?_
      refine rw_aload_n 23 dX11_records_23 0 rfl ?_
      refine rw_getR 24 11 57 kc11 dX11_records_24 ly_243 rln_243 fX11_128 rfl rf_243_57 ?_
      refine rw_iload_n 27 dX11_records_27 1 rfl ?_
      refine rw_bipush 28 (v := 31) dX11_records_28 (by decide) ?_
      refine rw_iadd 30 dX11_records_30 ?_
      refine rn_iald 31 dX11_records_31 ly_280 rln_280 h (fun h => ?_)
      refine rn_iast 32 dX11_records_32 ly_280 rln_280 h (fun μ5 h => ?_)
      refine rw_iinc 33 [(0, .ref 243), (1, .int (v1 + 1))] dX11_records_33 1 rfl rfl (by decide) rfl ?_
      refine rw_goto 36 11 dX11_records_36 (by decide) ?_
      exact ih (v1 + 1) μ5 h
set_option maxRecDepth 100000 in
theorem wX11_records  (μ : Mem) {res : Mem} (h : fX11_records  μ = some res) : Ct mX11_records 2 NF NF [.ref 243] (μ, Rf0, NF) (QN none res Rf0 NF) := by
  unfold fX11_records at h
  show RW mX11_records 2 NF NF 0 [(0, .ref 243)] [] (μ, Rf0, NF) (QN none res Rf0 NF)
  refine rw_aload_n 0 dX11_records_0 0 rfl ?_
  refine rw_getI 1 11 56 kc11 dX11_records_1 ly_243 rln_243 fX11_254 rfl ?_
  refine rw_bipush 4 (v := 40) dX11_records_4 (by decide) ?_
  refine rn_icmp_ne 6 49 dX11_records_6 (by decide) h (fun _ h => ?_) (fun _ h => ?_)
  · refine rw_iconst 49 (v := 0) dX11_records_49 (by decide) ?_
    refine rw_istore_n 50 [(0, .ref 243), (1, .int 0)] dX11_records_50 (by decide) rfl ?_
    refine wX11_records_51 _ (fun μ2 h => ?_) FU 0 μ h
    refine rw_aload_n 83 dX11_records_83 0 rfl ?_
    refine rw_dup 84 dX11_records_84 rfl ?_
    refine rw_getI 85 11 56 kc11 dX11_records_85 ly_243 rln_243 fX11_254 rfl ?_
    refine rw_iconst 88 (v := 1) dX11_records_88 (by decide) ?_
    refine rw_iadd 89 dX11_records_89 ?_
    refine rn_putI 90 11 56 kc11 dX11_records_90 ly_243 rln_243 fX11_254 (fun q hq => by cases hq; rfl) rfl rfl rfl h (fun μ3 h => ?_)
    refine rw_aload_n 93 dX11_records_93 0 rfl ?_
    refine rn_cVmv 94 11 [] dX11_records_94 caX11_keepsRow lX11_166 inX11_keepsRow slX11_keepsRow rfl ly_243 ⟨_, rfl, rfl⟩ rln_243 naX11_keepsRow (Nat.le_of_ble_eq_true rfl) (Nat.le_of_ble_eq_true rfl) (by decide) (fun _ hq => wX11_keepsRow μ3 hq) h (fun q4 h => ?_)
    exact rn_vret 97 dX11_records_97 rfl h
  · refine rw_iconst 9 (v := 0) dX11_records_9 (by decide) ?_
    refine rw_istore_n 10 [(0, .ref 243), (1, .int 0)] dX11_records_10 (by decide) rfl ?_
    refine wX11_records_11 _ (fun μ6 h => ?_) FU 0 μ h
    refine rw_aload_n 39 dX11_records_39 0 rfl ?_
    refine rw_dup 40 dX11_records_40 rfl ?_
    refine rw_getI 41 11 56 kc11 dX11_records_41 ly_243 rln_243 fX11_254 rfl ?_
    refine rw_iconst 44 (v := 1) dX11_records_44 (by decide) ?_
    refine rw_isub 45 dX11_records_45 ?_
    refine rn_putI 46 11 56 kc11 dX11_records_46 ly_243 rln_243 fX11_254 (fun q hq => by cases hq; rfl) rfl rfl rfl h (fun μ7 h => ?_)
    refine rw_iconst 49 (v := 0) dX11_records_49 (by decide) ?_
    refine rw_istore_n 50 [(0, .ref 243), (1, .int 0)] dX11_records_50 (by decide) rfl ?_
    refine wX11_records_51 _ (fun μ8 h => ?_) FU 0 μ7 h
    refine rw_aload_n 83 dX11_records_83 0 rfl ?_
    refine rw_dup 84 dX11_records_84 rfl ?_
    refine rw_getI 85 11 56 kc11 dX11_records_85 ly_243 rln_243 fX11_254 rfl ?_
    refine rw_iconst 88 (v := 1) dX11_records_88 (by decide) ?_
    refine rw_iadd 89 dX11_records_89 ?_
    refine rn_putI 90 11 56 kc11 dX11_records_90 ly_243 rln_243 fX11_254 (fun q hq => by cases hq; rfl) rfl rfl rfl h (fun μ9 h => ?_)
    refine rw_aload_n 93 dX11_records_93 0 rfl ?_
    refine rn_cVmv 94 11 [] dX11_records_94 caX11_keepsRow lX11_166 inX11_keepsRow slX11_keepsRow rfl ly_243 ⟨_, rfl, rfl⟩ rln_243 naX11_keepsRow (Nat.le_of_ble_eq_true rfl) (Nat.le_of_ble_eq_true rfl) (by decide) (fun _ hq => wX11_keepsRow μ9 hq) h (fun q10 h => ?_)
    exact rn_vret 97 dX11_records_97 rfl h
def fX11_mayGoIn (a1 : Int32) (a2 : Int32) (μ : Mem) : Option (Bool) :=
  if inb (14 + a1) 31 then
  if (μ.1 277 (14 + a1).toNatClampNeg) = 0 then
    (fX11_doesFit a1 a2 μ).bind fun q1 =>
    if q1 = true then
      (fX11_guestBits a2 μ).bind fun q2 =>
      (fX11_clashBits a1 μ).bind fun q3 =>
      if (q2 &&& q3) = 0 then
        some true
      else
        some false
    else
      some false
  else
    some false
  else none
set_option maxRecDepth 100000 in
theorem wX11_mayGoIn (a1 : Int32) (a2 : Int32) (μ : Mem) {res : Bool} (h : fX11_mayGoIn a1 a2 μ = some res) : Ct mX11_mayGoIn 4 NF NF [.ref 243, .int a1, .int a2] (μ, Rf0, NF) (QN (some (.int (b2i res))) μ Rf0 NF) := by
  unfold fX11_mayGoIn at h
  show RW mX11_mayGoIn 4 NF NF 0 [(0, .ref 243), (1, .int a1), (2, .int a2)] [] (μ, Rf0, NF) (QN (some (.int (b2i res))) μ Rf0 NF)
  refine rw_aload_n 0 dX11_mayGoIn_0 0 rfl ?_
  refine rw_getR 1 11 51 kc11 dX11_mayGoIn_1 ly_243 rln_243 fX11_119 rfl rf_243_51 ?_
  refine rw_bipush 4 (v := 14) dX11_mayGoIn_4 (by decide) ?_
  refine rw_iload_n 6 dX11_mayGoIn_6 1 rfl ?_
  refine rw_iadd 7 dX11_mayGoIn_7 ?_
  refine rn_iald 8 dX11_mayGoIn_8 ly_277 rln_277 h (fun h => ?_)
  refine rn_if_ne 9 39 dX11_mayGoIn_9 (by decide) h (fun _ h => ?_) (fun _ h => ?_)
  · refine rw_iconst 39 (v := 0) dX11_mayGoIn_39 (by decide) ?_
    exact rn_zret 40 (v := false) dX11_mayGoIn_40 rfl h
  · refine rw_aload_n 12 dX11_mayGoIn_12 0 rfl ?_
    refine rw_iload_n 13 dX11_mayGoIn_13 1 rfl ?_
    refine rw_iload_n 14 dX11_mayGoIn_14 2 rfl ?_
    refine rn_cVpb 15 11 [.int a1, .int a2] dX11_mayGoIn_15 caX11_doesFit lX11_416 inX11_doesFit slX11_doesFit rfl ly_243 ⟨_, rfl, rfl⟩ rln_243 naX11_doesFit (Nat.le_of_ble_eq_true rfl) (Nat.le_of_ble_eq_true rfl) (by decide) (fun _ hq => wX11_doesFit a1 a2 μ hq) h (fun q1 h => ?_)
    refine rn_ifb_eq 18 39 dX11_mayGoIn_18 (by decide) h (fun _ h => ?_) (fun _ h => ?_)
    · refine rw_iconst 39 (v := 0) dX11_mayGoIn_39 (by decide) ?_
      exact rn_zret 40 (v := false) dX11_mayGoIn_40 rfl h
    · refine rw_aload_n 21 dX11_mayGoIn_21 0 rfl ?_
      refine rw_iload_n 22 dX11_mayGoIn_22 2 rfl ?_
      refine rn_cVpi 23 11 [.int a2] dX11_mayGoIn_23 caX11_guestBits lX11_362 inX11_guestBits slX11_guestBits rfl ly_243 ⟨_, rfl, rfl⟩ rln_243 naX11_guestBits (Nat.le_of_ble_eq_true rfl) (Nat.le_of_ble_eq_true rfl) (by decide) (fun _ hq => wX11_guestBits a2 μ hq) h (fun q2 h => ?_)
      refine rw_aload_n 26 dX11_mayGoIn_26 0 rfl ?_
      refine rw_iload_n 27 dX11_mayGoIn_27 1 rfl ?_
      refine rn_cVpi 28 11 [.int a1] dX11_mayGoIn_28 caX11_clashBits lX11_419 inX11_clashBits slX11_clashBits rfl ly_243 ⟨_, rfl, rfl⟩ rln_243 naX11_clashBits (Nat.le_of_ble_eq_true rfl) (Nat.le_of_ble_eq_true rfl) (by decide) (fun _ hq => wX11_clashBits a1 μ hq) h (fun q3 h => ?_)
      refine rw_iand 31 dX11_mayGoIn_31 ?_
      refine rn_if_ne 32 39 dX11_mayGoIn_32 (by decide) h (fun _ h => ?_) (fun _ h => ?_)
      · refine rw_iconst 39 (v := 0) dX11_mayGoIn_39 (by decide) ?_
        exact rn_zret 40 (v := false) dX11_mayGoIn_40 rfl h
      · refine rw_iconst 35 (v := 1) dX11_mayGoIn_35 (by decide) ?_
        refine rw_goto 36 40 dX11_mayGoIn_36 (by decide) ?_
        exact rn_zret 40 (v := true) dX11_mayGoIn_40 rfl h
def fX11_letIn (a1 : Int32) (a2 : Int32) (μ : Mem) : Option (Bool × Mem) :=
  (fX11_isGuest a1 μ).bind fun q1 =>
  if q1 = true then
    (fX11_isSunday a2 μ).bind fun q2 =>
    if q2 = true then
      (fX11_copies μ).bind fun q3 =>
      if inb a1 31 then
      if (q3.1 277 a1.toNatClampNeg) < 0 then
        (fX11_mayGoIn a1 a2 q3).bind fun q4 =>
        if q4 = true then
          if inb a1 31 then nm (wI q3 277 a1.toNatClampNeg a2) fun μ5 =>
          (fX11_records μ5).bind fun q6 =>
          some (true, q6)
          else none
        else
          some (false, q3)
      else
        some (false, q3)
      else none
    else
      some (false, μ)
  else
    some (false, μ)
set_option maxRecDepth 100000 in
theorem wX11_letIn (a1 : Int32) (a2 : Int32) (μ : Mem) {res : Bool × Mem} (h : fX11_letIn a1 a2 μ = some res) : Ct mX11_letIn 5 NF NF [.ref 243, .int a1, .int a2] (μ, Rf0, NF) (QN (some (.int (b2i res.1))) res.2 Rf0 NF) := by
  unfold fX11_letIn at h
  show RW mX11_letIn 5 NF NF 0 [(0, .ref 243), (1, .int a1), (2, .int a2)] [] (μ, Rf0, NF) (QN (some (.int (b2i res.1))) res.2 Rf0 NF)
  refine rw_aload_n 0 dX11_letIn_0 0 rfl ?_
  refine rw_iload_n 1 dX11_letIn_1 1 rfl ?_
  refine rn_cVpb 2 11 [.int a1] dX11_letIn_2 caX11_isGuest lX11_410 inX11_isGuest slX11_isGuest rfl ly_243 ⟨_, rfl, rfl⟩ rln_243 naX11_isGuest (Nat.le_of_ble_eq_true rfl) (Nat.le_of_ble_eq_true rfl) (by decide) (fun _ hq => wX11_isGuest a1 μ hq) h (fun q1 h => ?_)
  refine rn_ifb_eq 5 16 dX11_letIn_5 (by decide) h (fun _ h => ?_) (fun _ h => ?_)
  · refine rw_iconst 16 (v := 0) dX11_letIn_16 (by decide) ?_
    exact rn_zret2 17 (v := false) dX11_letIn_17 rfl h
  · refine rw_aload_n 8 dX11_letIn_8 0 rfl ?_
    refine rw_iload_n 9 dX11_letIn_9 2 rfl ?_
    refine rn_cVpb 10 11 [.int a2] dX11_letIn_10 caX11_isSunday lX11_404 inX11_isSunday slX11_isSunday rfl ly_243 ⟨_, rfl, rfl⟩ rln_243 naX11_isSunday (Nat.le_of_ble_eq_true rfl) (Nat.le_of_ble_eq_true rfl) (by decide) (fun _ hq => wX11_isSunday a2 μ hq) h (fun q2 h => ?_)
    refine rn_ifb_ne 13 18 dX11_letIn_13 (by decide) h (fun _ h => ?_) (fun _ h => ?_)
    · refine rw_aload_n 18 dX11_letIn_18 0 rfl ?_
      refine rn_cVmv 19 11 [] dX11_letIn_19 caX11_copies lX11_326 inX11_copies slX11_copies rfl ly_243 ⟨_, rfl, rfl⟩ rln_243 naX11_copies (Nat.le_of_ble_eq_true rfl) (Nat.le_of_ble_eq_true rfl) (by decide) (fun _ hq => wX11_copies μ hq) h (fun q3 h => ?_)
      refine rw_aload_n 22 dX11_letIn_22 0 rfl ?_
      refine rw_getR 23 11 51 kc11 dX11_letIn_23 ly_243 rln_243 fX11_119 rfl rf_243_51 ?_
      refine rw_iload_n 26 dX11_letIn_26 1 rfl ?_
      refine rn_iald 27 dX11_letIn_27 ly_277 rln_277 h (fun h => ?_)
      refine rn_if_ge 28 40 dX11_letIn_28 (by decide) h (fun _ h => ?_) (fun _ h => ?_)
      · refine rw_iconst 40 (v := 0) dX11_letIn_40 (by decide) ?_
        exact rn_zret2 41 (v := false) dX11_letIn_41 rfl h
      · refine rw_aload_n 31 dX11_letIn_31 0 rfl ?_
        refine rw_iload_n 32 dX11_letIn_32 1 rfl ?_
        refine rw_iload_n 33 dX11_letIn_33 2 rfl ?_
        refine rn_cVpb 34 11 [.int a1, .int a2] dX11_letIn_34 caX11_mayGoIn lX11_422 inX11_mayGoIn slX11_mayGoIn rfl ly_243 ⟨_, rfl, rfl⟩ rln_243 naX11_mayGoIn (Nat.le_of_ble_eq_true rfl) (Nat.le_of_ble_eq_true rfl) (by decide) (fun _ hq => wX11_mayGoIn a1 a2 q3 hq) h (fun q4 h => ?_)
        refine rn_ifb_ne 37 42 dX11_letIn_37 (by decide) h (fun _ h => ?_) (fun _ h => ?_)
        · refine rw_aload_n 42 dX11_letIn_42 0 rfl ?_
          refine rw_getR 43 11 51 kc11 dX11_letIn_43 ly_243 rln_243 fX11_119 rfl rf_243_51 ?_
          refine rw_iload_n 46 dX11_letIn_46 1 rfl ?_
          refine rw_iload_n 47 dX11_letIn_47 2 rfl ?_
          refine rn_iast 48 dX11_letIn_48 ly_277 rln_277 h (fun μ5 h => ?_)
          refine rw_aload_n 49 dX11_letIn_49 0 rfl ?_
          refine rn_cVmv 50 11 [] dX11_letIn_50 caX11_records lX11_425 inX11_records slX11_records rfl ly_243 ⟨_, rfl, rfl⟩ rln_243 naX11_records (Nat.le_of_ble_eq_true rfl) (Nat.le_of_ble_eq_true rfl) (by decide) (fun _ hq => wX11_records μ5 hq) h (fun q6 h => ?_)
          refine rw_iconst 53 (v := 1) dX11_letIn_53 (by decide) ?_
          exact rn_zret2 54 (v := true) dX11_letIn_54 rfl h
        · refine rw_iconst 40 (v := 0) dX11_letIn_40 (by decide) ?_
          exact rn_zret2 41 (v := false) dX11_letIn_41 rfl h
    · refine rw_iconst 16 (v := 0) dX11_letIn_16 (by decide) ?_
      exact rn_zret2 17 (v := false) dX11_letIn_17 rfl h
def fX11_putOut (a1 : Int32) (μ : Mem) : Option (Bool × Mem) :=
  (fX11_isGuest a1 μ).bind fun q1 =>
  if q1 = true then
    if inb a1 31 then
    if (μ.1 276 a1.toNatClampNeg) < 0 then
      some (false, μ)
    else
      (fX11_copies μ).bind fun q2 =>
      if inb a1 31 then nm (wI q2 277 a1.toNatClampNeg (-2)) fun μ3 =>
      (fX11_records μ3).bind fun q4 =>
      some (true, q4)
      else none
    else none
  else
    some (false, μ)
set_option maxRecDepth 100000 in
theorem wX11_putOut (a1 : Int32) (μ : Mem) {res : Bool × Mem} (h : fX11_putOut a1 μ = some res) : Ct mX11_putOut 3 NF NF [.ref 243, .int a1] (μ, Rf0, NF) (QN (some (.int (b2i res.1))) res.2 Rf0 NF) := by
  unfold fX11_putOut at h
  show RW mX11_putOut 3 NF NF 0 [(0, .ref 243), (1, .int a1)] [] (μ, Rf0, NF) (QN (some (.int (b2i res.1))) res.2 Rf0 NF)
  refine rw_aload_n 0 dX11_putOut_0 0 rfl ?_
  refine rw_iload_n 1 dX11_putOut_1 1 rfl ?_
  refine rn_cVpb 2 11 [.int a1] dX11_putOut_2 caX11_isGuest lX11_410 inX11_isGuest slX11_isGuest rfl ly_243 ⟨_, rfl, rfl⟩ rln_243 naX11_isGuest (Nat.le_of_ble_eq_true rfl) (Nat.le_of_ble_eq_true rfl) (by decide) (fun _ hq => wX11_isGuest a1 μ hq) h (fun q1 h => ?_)
  refine rn_ifb_eq 5 17 dX11_putOut_5 (by decide) h (fun _ h => ?_) (fun _ h => ?_)
  · refine rw_iconst 17 (v := 0) dX11_putOut_17 (by decide) ?_
    exact rn_zret2 18 (v := false) dX11_putOut_18 rfl h
  · refine rw_aload_n 8 dX11_putOut_8 0 rfl ?_
    refine rw_getR 9 11 50 kc11 dX11_putOut_9 ly_243 rln_243 fX11_116 rfl rf_243_50 ?_
    refine rw_iload_n 12 dX11_putOut_12 1 rfl ?_
    refine rn_iald 13 dX11_putOut_13 ly_276 rln_276 h (fun h => ?_)
    refine rn_if_ge 14 19 dX11_putOut_14 (by decide) h (fun _ h => ?_) (fun _ h => ?_)
    · refine rw_aload_n 19 dX11_putOut_19 0 rfl ?_
      refine rn_cVmv 20 11 [] dX11_putOut_20 caX11_copies lX11_326 inX11_copies slX11_copies rfl ly_243 ⟨_, rfl, rfl⟩ rln_243 naX11_copies (Nat.le_of_ble_eq_true rfl) (Nat.le_of_ble_eq_true rfl) (by decide) (fun _ hq => wX11_copies μ hq) h (fun q2 h => ?_)
      refine rw_aload_n 23 dX11_putOut_23 0 rfl ?_
      refine rw_getR 24 11 51 kc11 dX11_putOut_24 ly_243 rln_243 fX11_119 rfl rf_243_51 ?_
      refine rw_iload_n 27 dX11_putOut_27 1 rfl ?_
      refine rw_bipush 28 (v := -2) dX11_putOut_28 (by decide) ?_
      refine rn_iast 30 dX11_putOut_30 ly_277 rln_277 h (fun μ3 h => ?_)
      refine rw_aload_n 31 dX11_putOut_31 0 rfl ?_
      refine rn_cVmv 32 11 [] dX11_putOut_32 caX11_records lX11_425 inX11_records slX11_records rfl ly_243 ⟨_, rfl, rfl⟩ rln_243 naX11_records (Nat.le_of_ble_eq_true rfl) (Nat.le_of_ble_eq_true rfl) (by decide) (fun _ hq => wX11_records μ3 hq) h (fun q4 h => ?_)
      refine rw_iconst 35 (v := 1) dX11_putOut_35 (by decide) ?_
      exact rn_zret2 36 (v := true) dX11_putOut_36 rfl h
    · refine rw_iconst 17 (v := 0) dX11_putOut_17 (by decide) ?_
      exact rn_zret2 18 (v := false) dX11_putOut_18 rfl h
def fX11_sell (a1 : Int32) (μ : Mem) : Option (Int32 × Mem) :=
  (fX11_isSunday a1 μ).bind fun q1 =>
  if q1 = true then
    (fX11_copies μ).bind fun q2 =>
    if inb (25 + a1) 31 then
    if (q2.1 277 (25 + a1).toNatClampNeg) = 1 then
      some ((-1), q2)
    else
      (fX11_guestBits a1 q2).bind fun q3 =>
      if q3 = 0 then
        (fX11_sellsOf a1 q2).bind fun q4 =>
        if inb (25 + a1) 31 then nm (wI q4.2 277 (25 + a1).toNatClampNeg 1) fun μ5 =>
        nm (wI μ5 277 30 ((μ5.1 277 30) + q4.1)) fun μ6 =>
        (fX11_records μ6).bind fun q7 =>
        some (q4.1, q7)
        else none
      else
        some ((-1), q2)
    else none
  else
    some ((-1), μ)
set_option maxRecDepth 100000 in
theorem wX11_sell (a1 : Int32) (μ : Mem) {res : Int32 × Mem} (h : fX11_sell a1 μ = some res) : Ct mX11_sell 4 NF NF [.ref 243, .int a1] (μ, Rf0, NF) (QN (some (.int res.1)) res.2 Rf0 NF) := by
  unfold fX11_sell at h
  show RW mX11_sell 4 NF NF 0 [(0, .ref 243), (1, .int a1)] [] (μ, Rf0, NF) (QN (some (.int res.1)) res.2 Rf0 NF)
  refine rw_aload_n 0 dX11_sell_0 0 rfl ?_
  refine rw_iload_n 1 dX11_sell_1 1 rfl ?_
  refine rn_cVpb 2 11 [.int a1] dX11_sell_2 caX11_isSunday lX11_404 inX11_isSunday slX11_isSunday rfl ly_243 ⟨_, rfl, rfl⟩ rln_243 naX11_isSunday (Nat.le_of_ble_eq_true rfl) (Nat.le_of_ble_eq_true rfl) (by decide) (fun _ hq => wX11_isSunday a1 μ hq) h (fun q1 h => ?_)
  refine rn_ifb_ne 5 10 dX11_sell_5 (by decide) h (fun _ h => ?_) (fun _ h => ?_)
  · refine rw_aload_n 10 dX11_sell_10 0 rfl ?_
    refine rn_cVmv 11 11 [] dX11_sell_11 caX11_copies lX11_326 inX11_copies slX11_copies rfl ly_243 ⟨_, rfl, rfl⟩ rln_243 naX11_copies (Nat.le_of_ble_eq_true rfl) (Nat.le_of_ble_eq_true rfl) (by decide) (fun _ hq => wX11_copies μ hq) h (fun q2 h => ?_)
    refine rw_aload_n 14 dX11_sell_14 0 rfl ?_
    refine rw_getR 15 11 51 kc11 dX11_sell_15 ly_243 rln_243 fX11_119 rfl rf_243_51 ?_
    refine rw_bipush 18 (v := 25) dX11_sell_18 (by decide) ?_
    refine rw_iload_n 20 dX11_sell_20 1 rfl ?_
    refine rw_iadd 21 dX11_sell_21 ?_
    refine rn_iald 22 dX11_sell_22 ly_277 rln_277 h (fun h => ?_)
    refine rw_iconst 23 (v := 1) dX11_sell_23 (by decide) ?_
    refine rn_icmp_eq 24 35 dX11_sell_24 (by decide) h (fun _ h => ?_) (fun _ h => ?_)
    · refine rw_iconst 35 (v := -1) dX11_sell_35 (by decide) ?_
      exact rn_iret2 36 dX11_sell_36 rfl h
    · refine rw_aload_n 27 dX11_sell_27 0 rfl ?_
      refine rw_iload_n 28 dX11_sell_28 1 rfl ?_
      refine rn_cVpi 29 11 [.int a1] dX11_sell_29 caX11_guestBits lX11_362 inX11_guestBits slX11_guestBits rfl ly_243 ⟨_, rfl, rfl⟩ rln_243 naX11_guestBits (Nat.le_of_ble_eq_true rfl) (Nat.le_of_ble_eq_true rfl) (by decide) (fun _ hq => wX11_guestBits a1 q2 hq) h (fun q3 h => ?_)
      refine rn_if_eq 32 37 dX11_sell_32 (by decide) h (fun _ h => ?_) (fun _ h => ?_)
      · refine rw_aload_n 37 dX11_sell_37 0 rfl ?_
        refine rw_iload_n 38 dX11_sell_38 1 rfl ?_
        refine rn_cVmi 39 11 [.int a1] dX11_sell_39 caX11_sellsOf lX11_407 inX11_sellsOf slX11_sellsOf rfl ly_243 ⟨_, rfl, rfl⟩ rln_243 naX11_sellsOf (Nat.le_of_ble_eq_true rfl) (Nat.le_of_ble_eq_true rfl) (by decide) (fun _ hq => wX11_sellsOf a1 q2 hq) h (fun q4 h => ?_)
        refine rw_istore_n 42 [(0, .ref 243), (1, .int a1), (2, .int q4.1)] dX11_sell_42 (by decide) rfl ?_
        refine rw_aload_n 43 dX11_sell_43 0 rfl ?_
        refine rw_getR 44 11 51 kc11 dX11_sell_44 ly_243 rln_243 fX11_119 rfl rf_243_51 ?_
        refine rw_bipush 47 (v := 25) dX11_sell_47 (by decide) ?_
        refine rw_iload_n 49 dX11_sell_49 1 rfl ?_
        refine rw_iadd 50 dX11_sell_50 ?_
        refine rw_iconst 51 (v := 1) dX11_sell_51 (by decide) ?_
        refine rn_iast 52 dX11_sell_52 ly_277 rln_277 h (fun μ5 h => ?_)
        refine rw_aload_n 53 dX11_sell_53 0 rfl ?_
        refine rw_getR 54 11 51 kc11 dX11_sell_54 ly_243 rln_243 fX11_119 rfl rf_243_51 ?_
        refine rw_bipush 57 (v := 30) dX11_sell_57 (by decide) ?_
        refine rw_dup2 59 dX11_sell_59 rfl rfl ?_
        refine rn_ialdc 60 dX11_sell_60 ly_277 rln_277 (by decide) (j := 30) (by decide) ?_
        refine rw_iload_n 61 dX11_sell_61 2 rfl ?_
        refine rw_iadd 62 dX11_sell_62 ?_
        refine rn_iastc 63 dX11_sell_63 ly_277 rln_277 (by decide) (j := 30) (by decide) h (fun μ6 h => ?_)
        refine rw_aload_n 64 dX11_sell_64 0 rfl ?_
        refine rn_cVmv 65 11 [] dX11_sell_65 caX11_records lX11_425 inX11_records slX11_records rfl ly_243 ⟨_, rfl, rfl⟩ rln_243 naX11_records (Nat.le_of_ble_eq_true rfl) (Nat.le_of_ble_eq_true rfl) (by decide) (fun _ hq => wX11_records μ6 hq) h (fun q7 h => ?_)
        refine rw_iload_n 68 dX11_sell_68 2 rfl ?_
        exact rn_iret2 69 dX11_sell_69 rfl h
      · refine rw_iconst 35 (v := -1) dX11_sell_35 (by decide) ?_
        exact rn_iret2 36 dX11_sell_36 rfl h
  · refine rw_iconst 8 (v := -1) dX11_sell_8 (by decide) ?_
    exact rn_iret2 9 dX11_sell_9 rfl h
def fX11_air (a1 : Int32) (μ : Mem) : Option (Bool × Mem) :=
  (fX11_isSunday a1 μ).bind fun q1 =>
  if q1 = true then
    (fX11_copies μ).bind fun q2 =>
    if inb (25 + a1) 31 then
    if (q2.1 277 (25 + a1).toNatClampNeg) = 1 then
      some (false, q2)
    else
      if inb (21 + a1) 31 then
      if (q2.1 277 (21 + a1).toNatClampNeg) = 0 then
        some (false, q2)
      else
        (fX11_guestBits a1 q2).bind fun q3 =>
        if q3 = 0 then
          if inb (21 + a1) 31 then nm (wI q2 277 (21 + a1).toNatClampNeg 0) fun μ4 =>
          if 0 < (μ4.1 277 30) then
            nm (wI μ4 277 30 ((μ4.1 277 30) - 1)) fun μ6 =>
            (fX11_records μ6).bind fun q7 =>
            some (true, q7)
          else
            (fX11_records μ4).bind fun q5 =>
            some (true, q5)
          else none
        else
          some (false, q2)
      else none
    else none
  else
    some (false, μ)
set_option maxRecDepth 100000 in
theorem wX11_air (a1 : Int32) (μ : Mem) {res : Bool × Mem} (h : fX11_air a1 μ = some res) : Ct mX11_air 3 NF NF [.ref 243, .int a1] (μ, Rf0, NF) (QN (some (.int (b2i res.1))) res.2 Rf0 NF) := by
  unfold fX11_air at h
  show RW mX11_air 3 NF NF 0 [(0, .ref 243), (1, .int a1)] [] (μ, Rf0, NF) (QN (some (.int (b2i res.1))) res.2 Rf0 NF)
  refine rw_aload_n 0 dX11_air_0 0 rfl ?_
  refine rw_iload_n 1 dX11_air_1 1 rfl ?_
  refine rn_cVpb 2 11 [.int a1] dX11_air_2 caX11_isSunday lX11_404 inX11_isSunday slX11_isSunday rfl ly_243 ⟨_, rfl, rfl⟩ rln_243 naX11_isSunday (Nat.le_of_ble_eq_true rfl) (Nat.le_of_ble_eq_true rfl) (by decide) (fun _ hq => wX11_isSunday a1 μ hq) h (fun q1 h => ?_)
  refine rn_ifb_ne 5 10 dX11_air_5 (by decide) h (fun _ h => ?_) (fun _ h => ?_)
  · refine rw_aload_n 10 dX11_air_10 0 rfl ?_
    refine rn_cVmv 11 11 [] dX11_air_11 caX11_copies lX11_326 inX11_copies slX11_copies rfl ly_243 ⟨_, rfl, rfl⟩ rln_243 naX11_copies (Nat.le_of_ble_eq_true rfl) (Nat.le_of_ble_eq_true rfl) (by decide) (fun _ hq => wX11_copies μ hq) h (fun q2 h => ?_)
    refine rw_aload_n 14 dX11_air_14 0 rfl ?_
    refine rw_getR 15 11 51 kc11 dX11_air_15 ly_243 rln_243 fX11_119 rfl rf_243_51 ?_
    refine rw_bipush 18 (v := 25) dX11_air_18 (by decide) ?_
    refine rw_iload_n 20 dX11_air_20 1 rfl ?_
    refine rw_iadd 21 dX11_air_21 ?_
    refine rn_iald 22 dX11_air_22 ly_277 rln_277 h (fun h => ?_)
    refine rw_iconst 23 (v := 1) dX11_air_23 (by decide) ?_
    refine rn_icmp_eq 24 47 dX11_air_24 (by decide) h (fun _ h => ?_) (fun _ h => ?_)
    · refine rw_iconst 47 (v := 0) dX11_air_47 (by decide) ?_
      exact rn_zret2 48 (v := false) dX11_air_48 rfl h
    · refine rw_aload_n 27 dX11_air_27 0 rfl ?_
      refine rw_getR 28 11 51 kc11 dX11_air_28 ly_243 rln_243 fX11_119 rfl rf_243_51 ?_
      refine rw_bipush 31 (v := 21) dX11_air_31 (by decide) ?_
      refine rw_iload_n 33 dX11_air_33 1 rfl ?_
      refine rw_iadd 34 dX11_air_34 ?_
      refine rn_iald 35 dX11_air_35 ly_277 rln_277 h (fun h => ?_)
      refine rn_if_eq 36 47 dX11_air_36 (by decide) h (fun _ h => ?_) (fun _ h => ?_)
      · refine rw_iconst 47 (v := 0) dX11_air_47 (by decide) ?_
        exact rn_zret2 48 (v := false) dX11_air_48 rfl h
      · refine rw_aload_n 39 dX11_air_39 0 rfl ?_
        refine rw_iload_n 40 dX11_air_40 1 rfl ?_
        refine rn_cVpi 41 11 [.int a1] dX11_air_41 caX11_guestBits lX11_362 inX11_guestBits slX11_guestBits rfl ly_243 ⟨_, rfl, rfl⟩ rln_243 naX11_guestBits (Nat.le_of_ble_eq_true rfl) (Nat.le_of_ble_eq_true rfl) (by decide) (fun _ hq => wX11_guestBits a1 q2 hq) h (fun q3 h => ?_)
        refine rn_if_eq 44 49 dX11_air_44 (by decide) h (fun _ h => ?_) (fun _ h => ?_)
        · refine rw_aload_n 49 dX11_air_49 0 rfl ?_
          refine rw_getR 50 11 51 kc11 dX11_air_50 ly_243 rln_243 fX11_119 rfl rf_243_51 ?_
          refine rw_bipush 53 (v := 21) dX11_air_53 (by decide) ?_
          refine rw_iload_n 55 dX11_air_55 1 rfl ?_
          refine rw_iadd 56 dX11_air_56 ?_
          refine rw_iconst 57 (v := 0) dX11_air_57 (by decide) ?_
          refine rn_iast 58 dX11_air_58 ly_277 rln_277 h (fun μ4 h => ?_)
          refine rw_aload_n 59 dX11_air_59 0 rfl ?_
          refine rw_getR 60 11 51 kc11 dX11_air_60 ly_243 rln_243 fX11_119 rfl rf_243_51 ?_
          refine rw_bipush 63 (v := 30) dX11_air_63 (by decide) ?_
          refine rn_ialdc 65 dX11_air_65 ly_277 rln_277 (by decide) (j := 30) (by decide) ?_
          refine rn_if_le 66 80 dX11_air_66 (by decide) h (fun _ h => ?_) (fun _ h => ?_)
          · refine rw_aload_n 80 dX11_air_80 0 rfl ?_
            refine rn_cVmv 81 11 [] dX11_air_81 caX11_records lX11_425 inX11_records slX11_records rfl ly_243 ⟨_, rfl, rfl⟩ rln_243 naX11_records (Nat.le_of_ble_eq_true rfl) (Nat.le_of_ble_eq_true rfl) (by decide) (fun _ hq => wX11_records μ4 hq) h (fun q5 h => ?_)
            refine rw_iconst 84 (v := 1) dX11_air_84 (by decide) ?_
            exact rn_zret2 85 (v := true) dX11_air_85 rfl h
          · refine rw_aload_n 69 dX11_air_69 0 rfl ?_
            refine rw_getR 70 11 51 kc11 dX11_air_70 ly_243 rln_243 fX11_119 rfl rf_243_51 ?_
            refine rw_bipush 73 (v := 30) dX11_air_73 (by decide) ?_
            refine rw_dup2 75 dX11_air_75 rfl rfl ?_
            refine rn_ialdc 76 dX11_air_76 ly_277 rln_277 (by decide) (j := 30) (by decide) ?_
            refine rw_iconst 77 (v := 1) dX11_air_77 (by decide) ?_
            refine rw_isub 78 dX11_air_78 ?_
            refine rn_iastc 79 dX11_air_79 ly_277 rln_277 (by decide) (j := 30) (by decide) h (fun μ6 h => ?_)
            refine rw_aload_n 80 dX11_air_80 0 rfl ?_
            refine rn_cVmv 81 11 [] dX11_air_81 caX11_records lX11_425 inX11_records slX11_records rfl ly_243 ⟨_, rfl, rfl⟩ rln_243 naX11_records (Nat.le_of_ble_eq_true rfl) (Nat.le_of_ble_eq_true rfl) (by decide) (fun _ hq => wX11_records μ6 hq) h (fun q7 h => ?_)
            refine rw_iconst 84 (v := 1) dX11_air_84 (by decide) ?_
            exact rn_zret2 85 (v := true) dX11_air_85 rfl h
        · refine rw_iconst 47 (v := 0) dX11_air_47 (by decide) ?_
          exact rn_zret2 48 (v := false) dX11_air_48 rfl h
  · refine rw_iconst 8 (v := 0) dX11_air_8 (by decide) ?_
    exact rn_zret2 9 (v := false) dX11_air_9 rfl h
def fX11_isLong (a0 : Int32) (μ : Mem) : Option (Bool) :=
  (fX11_in a0 0 40 μ).bind fun q1 =>
  some q1
set_option maxRecDepth 100000 in
theorem wX11_isLong (a0 : Int32) (μ : Mem) {res : Bool} (h : fX11_isLong a0 μ = some res) : Ct mX11_isLong 2 NF NF [.int a0] (μ, Rf0, NF) (QN (some (.int (b2i res))) μ Rf0 NF) := by
  unfold fX11_isLong at h
  show RW mX11_isLong 2 NF NF 0 [(0, .int a0)] [] (μ, Rf0, NF) (QN (some (.int (b2i res))) μ Rf0 NF)
  refine rw_iload_n 0 dX11_isLong_0 0 rfl ?_
  refine rw_iconst 1 (v := 0) dX11_isLong_1 (by decide) ?_
  refine rw_bipush 2 (v := 40) dX11_isLong_2 (by decide) ?_
  refine rn_cSpb 4 [.int a0, .int 0, .int 40] dX11_isLong_4 caX11_in lX11_316 stX11_in rfl naX11_in (Nat.le_of_ble_eq_true rfl) (Nat.le_of_ble_eq_true rfl) (by decide) (fun _ hq => wX11_in a0 0 40 μ hq) h (fun q1 h => ?_)
  exact rn_zret 7 (v := q1) dX11_isLong_7 rfl h
def fX11_weeks (a1 : Int32) (μ : Mem) : Option (Int32 × Mem) :=
  (fX11_isLong a1 μ).bind fun q1 =>
  if q1 = true then
    if a1 = 0 then
      some ((μ.1 276 29), μ)
    else
      (fX11_copies μ).bind fun q2 =>
      (fX11_goes a1 q2).bind fun q3 =>
      (fX11_records q3).bind fun q4 =>
      some ((q4.1 276 29), q4)
  else
    some ((-1), μ)
set_option maxRecDepth 100000 in
theorem wX11_weeks (a1 : Int32) (μ : Mem) {res : Int32 × Mem} (h : fX11_weeks a1 μ = some res) : Ct mX11_weeks 8 NF NF [.ref 243, .int a1] (μ, Rf0, NF) (QN (some (.int res.1)) res.2 Rf0 NF) := by
  unfold fX11_weeks at h
  show RW mX11_weeks 8 NF NF 0 [(0, .ref 243), (1, .int a1)] [] (μ, Rf0, NF) (QN (some (.int res.1)) res.2 Rf0 NF)
  refine rw_iload_n 0 dX11_weeks_0 1 rfl ?_
  refine rn_cSpb 1 [.int a1] dX11_weeks_1 caX11_isLong lX11_428 stX11_isLong rfl naX11_isLong (Nat.le_of_ble_eq_true rfl) (Nat.le_of_ble_eq_true rfl) (by decide) (fun _ hq => wX11_isLong a1 μ hq) h (fun q1 h => ?_)
  refine rn_ifb_ne 4 9 dX11_weeks_4 (by decide) h (fun _ h => ?_) (fun _ h => ?_)
  · refine rw_iload_n 9 dX11_weeks_9 1 rfl ?_
    refine rn_if_ne 10 21 dX11_weeks_10 (by decide) h (fun _ h => ?_) (fun _ h => ?_)
    · refine rw_aload_n 21 dX11_weeks_21 0 rfl ?_
      refine rn_cVmv 22 11 [] dX11_weeks_22 caX11_copies lX11_326 inX11_copies slX11_copies rfl ly_243 ⟨_, rfl, rfl⟩ rln_243 naX11_copies (Nat.le_of_ble_eq_true rfl) (Nat.le_of_ble_eq_true rfl) (by decide) (fun _ hq => wX11_copies μ hq) h (fun q2 h => ?_)
      refine rw_aload_n 25 dX11_weeks_25 0 rfl ?_
      refine rw_iload_n 26 dX11_weeks_26 1 rfl ?_
      refine rn_cVmv 27 11 [.int a1] dX11_weeks_27 caX11_goes lX11_431 inX11_goes slX11_goes rfl ly_243 ⟨_, rfl, rfl⟩ rln_243 naX11_goes (Nat.le_of_ble_eq_true rfl) (Nat.le_of_ble_eq_true rfl) (by decide) (fun _ hq => wX11_goes a1 q2 hq) h (fun q3 h => ?_)
      refine rw_aload_n 30 dX11_weeks_30 0 rfl ?_
      refine rn_cVmv 31 11 [] dX11_weeks_31 caX11_records lX11_425 inX11_records slX11_records rfl ly_243 ⟨_, rfl, rfl⟩ rln_243 naX11_records (Nat.le_of_ble_eq_true rfl) (Nat.le_of_ble_eq_true rfl) (by decide) (fun _ hq => wX11_records q3 hq) h (fun q4 h => ?_)
      refine rw_aload_n 34 dX11_weeks_34 0 rfl ?_
      refine rw_getR 35 11 50 kc11 dX11_weeks_35 ly_243 rln_243 fX11_116 rfl rf_243_50 ?_
      refine rw_bipush 38 (v := 29) dX11_weeks_38 (by decide) ?_
      refine rn_ialdc 40 dX11_weeks_40 ly_276 rln_276 (by decide) (j := 29) (by decide) ?_
      exact rn_iret2 41 dX11_weeks_41 rfl h
    · refine rw_aload_n 13 dX11_weeks_13 0 rfl ?_
      refine rw_getR 14 11 50 kc11 dX11_weeks_14 ly_243 rln_243 fX11_116 rfl rf_243_50 ?_
      refine rw_bipush 17 (v := 29) dX11_weeks_17 (by decide) ?_
      refine rn_ialdc 19 dX11_weeks_19 ly_276 rln_276 (by decide) (j := 29) (by decide) ?_
      exact rn_iret2 20 dX11_weeks_20 rfl h
  · refine rw_iconst 7 (v := -1) dX11_weeks_7 (by decide) ?_
    exact rn_iret2 8 dX11_weeks_8 rfl h
def fX11_undo_21     (K : Mem → Option (Bool × Mem)) : Nat → Int32 → Mem → Option (Bool × Mem)
  | 0, _, _ => none
  | n + 1, v1, μ =>
    if v1 < 31 then
      if inb ((31 * (μ.1 243 56)) + v1) 1240 then
      if inb v1 31 then nm (wI μ 276 v1.toNatClampNeg (μ.1 280 ((31 * (μ.1 243 56)) + v1).toNatClampNeg)) fun μ2 =>
      fX11_undo_21 K n (v1 + 1) μ2
      else none
      else none
    else
      K μ
def fX11_undo  (μ : Mem) : Option (Bool × Mem) :=
  if (μ.1 243 56) = 0 then
    some (false, μ)
  else
    nm (wI μ 243 56 ((μ.1 243 56) - 1)) fun μ1 =>
    fX11_undo_21  (fun μ3 =>
        some (true, μ3)
    ) FU 0 μ1
set_option maxRecDepth 100000 in
theorem wX11_undo_21     (K : Mem → Option (Bool × Mem)) {res : Bool × Mem} (hK : ∀  (μ : Mem), K μ = some res → RW mX11_undo 1 NF NF 53 [] [] (μ, Rf0, NF) (QN (some (.int (b2i res.1))) res.2 Rf0 NF)) : ∀ (n9 : Nat) (v1 : Int32) (μ : Mem), fX11_undo_21 K n9 v1 μ = some res → RW mX11_undo 1 NF NF 21 [(0, .ref 243), (1, .int v1)] [] (μ, Rf0, NF) (QN (some (.int (b2i res.1))) res.2 Rf0 NF) := by
  intro n9
  induction n9 with
  | zero => intro _ _ h; cases h
  | succ n ih =>
    intro v1 μ h
    unfold fX11_undo_21 at h
    refine rw_iload_n 21 dX11_undo_21 1 rfl ?_
    refine rw_bipush 22 (v := 31) dX11_undo_22 (by decide) ?_
    refine rn_icmp_ge 24 53 dX11_undo_24 (by decide) h (fun _ h => ?_) (fun _ h => ?_)
    · refine rw_pick 53 [] rfl ?_
      exact hK μ h
    · refine rw_aload_n 27 dX11_undo_27 0 rfl ?_
      refine rw_getR 28 11 50 kc11 dX11_undo_28 ly_243 rln_243 fX11_116 rfl rf_243_50 ?_
      refine rw_iload_n 31 dX11_undo_31 1 rfl ?_
      refine rw_aload_n 32 dX11_undo_32 0 rfl ?_
      refine rw_getR 33 11 57 kc11 dX11_undo_33 ly_243 rln_243 fX11_128 rfl rf_243_57 ?_
      refine rw_bipush 36 (v := 31) dX11_undo_36 (by decide) ?_
      refine rw_aload_n 38 dX11_undo_38 0 rfl ?_
      refine rw_getI 39 11 56 kc11 dX11_undo_39 ly_243 rln_243 fX11_254 rfl ?_
      refine rw_imul 42 dX11_undo_42 ?_
      refine rw_iload_n 43 dX11_undo_43 1 rfl ?_
      refine rw_iadd 44 dX11_undo_44 ?_
      refine rn_iald 45 dX11_undo_45 ly_280 rln_280 h (fun h => ?_)
      refine rn_iast 46 dX11_undo_46 ly_276 rln_276 h (fun μ2 h => ?_)
      refine rw_iinc 47 [(0, .ref 243), (1, .int (v1 + 1))] dX11_undo_47 1 rfl rfl (by decide) rfl ?_
      refine rw_goto 50 21 dX11_undo_50 (by decide) ?_
      exact ih (v1 + 1) μ2 h
set_option maxRecDepth 100000 in
theorem wX11_undo  (μ : Mem) {res : Bool × Mem} (h : fX11_undo  μ = some res) : Ct mX11_undo 1 NF NF [.ref 243] (μ, Rf0, NF) (QN (some (.int (b2i res.1))) res.2 Rf0 NF) := by
  unfold fX11_undo at h
  show RW mX11_undo 1 NF NF 0 [(0, .ref 243)] [] (μ, Rf0, NF) (QN (some (.int (b2i res.1))) res.2 Rf0 NF)
  refine rw_aload_n 0 dX11_undo_0 0 rfl ?_
  refine rw_getI 1 11 56 kc11 dX11_undo_1 ly_243 rln_243 fX11_254 rfl ?_
  refine rn_if_ne 4 9 dX11_undo_4 (by decide) h (fun _ h => ?_) (fun _ h => ?_)
  · refine rw_aload_n 9 dX11_undo_9 0 rfl ?_
    refine rw_dup 10 dX11_undo_10 rfl ?_
    refine rw_getI 11 11 56 kc11 dX11_undo_11 ly_243 rln_243 fX11_254 rfl ?_
    refine rw_iconst 14 (v := 1) dX11_undo_14 (by decide) ?_
    refine rw_isub 15 dX11_undo_15 ?_
    refine rn_putI 16 11 56 kc11 dX11_undo_16 ly_243 rln_243 fX11_254 (fun q hq => by cases hq; rfl) rfl rfl rfl h (fun μ1 h => ?_)
    refine rw_iconst 19 (v := 0) dX11_undo_19 (by decide) ?_
    refine rw_istore_n 20 [(0, .ref 243), (1, .int 0)] dX11_undo_20 (by decide) rfl ?_
    refine wX11_undo_21 _ (fun μ3 h => ?_) FU 0 μ1 h
    refine rw_iconst 53 (v := 1) dX11_undo_53 (by decide) ?_
    exact rn_zret2 54 (v := true) dX11_undo_54 rfl h
  · refine rw_iconst 7 (v := 0) dX11_undo_7 (by decide) ?_
    exact rn_zret2 8 (v := false) dX11_undo_8 rfl h
def fX11_lowestOf_2   (v0 : Int32) (μ : Mem) (K : Int32 → Option (Int32)) : Nat → Int32 → Option (Int32)
  | 0, _ => none
  | n + 1, v1 =>
    if ((v0 >>> (v1 &&& 31)) &&& 1) = 0 then
      fX11_lowestOf_2 v0 μ K n (v1 + 1)
    else
      K v1
def fX11_lowestOf (a0 : Int32) (μ : Mem) : Option (Int32) :=
  fX11_lowestOf_2 a0 μ (fun y1 =>
      some y1
  ) FU 0
set_option maxRecDepth 100000 in
theorem wX11_lowestOf_2   (v0 : Int32) (μ : Mem) (K : Int32 → Option (Int32)) {res : Int32} (hK : ∀ (v1 : Int32), K v1 = some res → RW mX11_lowestOf 1 NF NF 16 [(1, .int v1)] [] (μ, Rf0, NF) (QN (some (.int res)) μ Rf0 NF)) : ∀ (n9 : Nat) (v1 : Int32), fX11_lowestOf_2 v0 μ K n9 v1 = some res → RW mX11_lowestOf 1 NF NF 2 [(0, .int v0), (1, .int v1)] [] (μ, Rf0, NF) (QN (some (.int res)) μ Rf0 NF) := by
  intro n9
  induction n9 with
  | zero => intro _ h; cases h
  | succ n ih =>
    intro v1 h
    unfold fX11_lowestOf_2 at h
    refine rw_iload_n 2 dX11_lowestOf_2 0 rfl ?_
    refine rw_iload_n 3 dX11_lowestOf_3 1 rfl ?_
    refine rw_ishr 4 dX11_lowestOf_4 ?_
    refine rw_iconst 5 (v := 1) dX11_lowestOf_5 (by decide) ?_
    refine rw_iand 6 dX11_lowestOf_6 ?_
    refine rn_if_ne 7 16 dX11_lowestOf_7 (by decide) h (fun _ h => ?_) (fun _ h => ?_)
    · refine rw_pick 16 [1] rfl ?_
      exact hK v1 h
    · refine rw_iinc 10 [(0, .int v0), (1, .int (v1 + 1))] dX11_lowestOf_10 1 rfl rfl (by decide) rfl ?_
      refine rw_goto 13 2 dX11_lowestOf_13 (by decide) ?_
      exact ih (v1 + 1) h
set_option maxRecDepth 100000 in
theorem wX11_lowestOf (a0 : Int32) (μ : Mem) {res : Int32} (h : fX11_lowestOf a0 μ = some res) : Ct mX11_lowestOf 1 NF NF [.int a0] (μ, Rf0, NF) (QN (some (.int res)) μ Rf0 NF) := by
  unfold fX11_lowestOf at h
  show RW mX11_lowestOf 1 NF NF 0 [(0, .int a0)] [] (μ, Rf0, NF) (QN (some (.int res)) μ Rf0 NF)
  refine rw_iconst 0 (v := 0) dX11_lowestOf_0 (by decide) ?_
  refine rw_istore_n 1 [(0, .int a0), (1, .int 0)] dX11_lowestOf_1 (by decide) rfl ?_
  refine wX11_lowestOf_2 a0 μ _ (fun y1 h => ?_) FU 0 h
  refine rw_iload_n 16 dX11_lowestOf_16 0 rfl ?_
  exact rn_iret 17 dX11_lowestOf_17 rfl h
def fX11_isPart (a0 : Int32) (a1 : Int32) (μ : Mem) : Option (Bool) :=
  if (a0 &&& (a1 ^^^ (-1))) = 0 then
    some true
  else
    some false
set_option maxRecDepth 100000 in
theorem wX11_isPart (a0 : Int32) (a1 : Int32) (μ : Mem) {res : Bool} (h : fX11_isPart a0 a1 μ = some res) : Ct mX11_isPart 1 NF NF [.int a0, .int a1] (μ, Rf0, NF) (QN (some (.int (b2i res))) μ Rf0 NF) := by
  unfold fX11_isPart at h
  show RW mX11_isPart 1 NF NF 0 [(0, .int a0), (1, .int a1)] [] (μ, Rf0, NF) (QN (some (.int (b2i res))) μ Rf0 NF)
  refine rw_iload_n 0 dX11_isPart_0 0 rfl ?_
  refine rw_iload_n 1 dX11_isPart_1 1 rfl ?_
  refine rw_iconst 2 (v := -1) dX11_isPart_2 (by decide) ?_
  refine rw_ixor 3 dX11_isPart_3 ?_
  refine rw_iand 4 dX11_isPart_4 ?_
  refine rn_if_ne 5 12 dX11_isPart_5 (by decide) h (fun _ h => ?_) (fun _ h => ?_)
  · refine rw_iconst 12 (v := 0) dX11_isPart_12 (by decide) ?_
    exact rn_zret 13 (v := false) dX11_isPart_13 rfl h
  · refine rw_iconst 8 (v := 1) dX11_isPart_8 (by decide) ?_
    refine rw_goto 9 13 dX11_isPart_9 (by decide) ?_
    exact rn_zret 13 (v := true) dX11_isPart_13 rfl h
def fX11_valueAt (a1 : Int32) (a2 : Int32) (μ : Mem) : Option (Int32 × Mem) :=
  if a2 = 0 then
    some (0, μ)
  else
    (fX11_lowestOf a2 μ).bind fun q1 =>
    if inb ((128 * a1) + (a2 &&& (((1 : Int32) <<< (q1 &&& 31)) ^^^ (-1)))) 512 then
    nm (μ.1 281 ((128 * a1) + (a2 &&& (((1 : Int32) <<< (q1 &&& 31)) ^^^ (-1)))).toNatClampNeg) fun x2 =>
    if x2 < 0 then
      some ((-1), μ)
    else
      if inb (14 + q1) 31 then
      if (μ.1 277 (14 + q1).toNatClampNeg) = 1 then
        some ((-1), μ)
      else
        (fX11_doesFit q1 a1 μ).bind fun q3 =>
        if q3 = true then
          (fX11_clashBits q1 μ).bind fun q4 =>
          if (a2 &&& q4) = 0 then
            (fX11_paysAt q1 a1 0 μ).bind fun q5 =>
            some ((x2 + q5.1), q5.2)
          else
            some ((-1), μ)
        else
          some ((-1), μ)
      else none
    else none
set_option maxRecDepth 100000 in
theorem wX11_valueAt (a1 : Int32) (a2 : Int32) (μ : Mem) {res : Int32 × Mem} (h : fX11_valueAt a1 a2 μ = some res) : Ct mX11_valueAt 4 NF NF [.ref 243, .int a1, .int a2] (μ, Rf0, NF) (QN (some (.int res.1)) res.2 Rf0 NF) := by
  unfold fX11_valueAt at h
  show RW mX11_valueAt 4 NF NF 0 [(0, .ref 243), (1, .int a1), (2, .int a2)] [] (μ, Rf0, NF) (QN (some (.int res.1)) res.2 Rf0 NF)
  refine rw_iload_n 0 dX11_valueAt_0 2 rfl ?_
  refine rn_if_ne 1 6 dX11_valueAt_1 (by decide) h (fun _ h => ?_) (fun _ h => ?_)
  · refine rw_iload_n 6 dX11_valueAt_6 2 rfl ?_
    refine rn_cSpi 7 [.int a2] dX11_valueAt_7 caX11_lowestOf lX11_434 stX11_lowestOf rfl naX11_lowestOf (Nat.le_of_ble_eq_true rfl) (Nat.le_of_ble_eq_true rfl) (by decide) (fun _ hq => wX11_lowestOf a2 μ hq) h (fun q1 h => ?_)
    refine rw_istore_n 10 [(0, .ref 243), (1, .int a1), (2, .int a2), (3, .int q1)] dX11_valueAt_10 (by decide) rfl ?_
    refine rw_aload_n 11 dX11_valueAt_11 0 rfl ?_
    refine rw_getR 12 11 58 kc11 dX11_valueAt_12 ly_243 rln_243 fX11_131 rfl rf_243_58 ?_
    refine rw_sipush 15 (v := 128) dX11_valueAt_15 (by decide) ?_
    refine rw_iload_n 18 dX11_valueAt_18 1 rfl ?_
    refine rw_imul 19 dX11_valueAt_19 ?_
    refine rw_iload_n 20 dX11_valueAt_20 2 rfl ?_
    refine rw_iconst 21 (v := 1) dX11_valueAt_21 (by decide) ?_
    refine rw_iload_n 22 dX11_valueAt_22 3 rfl ?_
    refine rw_ishl 23 dX11_valueAt_23 ?_
    refine rw_iconst 24 (v := -1) dX11_valueAt_24 (by decide) ?_
    refine rw_ixor 25 dX11_valueAt_25 ?_
    refine rw_iand 26 dX11_valueAt_26 ?_
    refine rw_iadd 27 dX11_valueAt_27 ?_
    refine rn_iald 28 dX11_valueAt_28 ly_281 rln_281 h (fun h => ?_)
    refine rn_ist 29 (fun x2 => [(0, .ref 243), (1, .int a1), (2, .int a2), (3, .int q1), (4, .int x2)]) dX11_valueAt_29 (by decide) (fun _ => rfl) h (fun x2 h => ?_)
    refine rw_iload 31 dX11_valueAt_31 4 rfl ?_
    refine rn_if_lt 33 68 dX11_valueAt_33 (by decide) h (fun _ h => ?_) (fun _ h => ?_)
    · refine rw_iconst 68 (v := -1) dX11_valueAt_68 (by decide) ?_
      exact rn_iret2 69 dX11_valueAt_69 rfl h
    · refine rw_aload_n 36 dX11_valueAt_36 0 rfl ?_
      refine rw_getR 37 11 51 kc11 dX11_valueAt_37 ly_243 rln_243 fX11_119 rfl rf_243_51 ?_
      refine rw_bipush 40 (v := 14) dX11_valueAt_40 (by decide) ?_
      refine rw_iload_n 42 dX11_valueAt_42 3 rfl ?_
      refine rw_iadd 43 dX11_valueAt_43 ?_
      refine rn_iald 44 dX11_valueAt_44 ly_277 rln_277 h (fun h => ?_)
      refine rw_iconst 45 (v := 1) dX11_valueAt_45 (by decide) ?_
      refine rn_icmp_eq 46 68 dX11_valueAt_46 (by decide) h (fun _ h => ?_) (fun _ h => ?_)
      · refine rw_iconst 68 (v := -1) dX11_valueAt_68 (by decide) ?_
        exact rn_iret2 69 dX11_valueAt_69 rfl h
      · refine rw_aload_n 49 dX11_valueAt_49 0 rfl ?_
        refine rw_iload_n 50 dX11_valueAt_50 3 rfl ?_
        refine rw_iload_n 51 dX11_valueAt_51 1 rfl ?_
        refine rn_cVpb 52 11 [.int q1, .int a1] dX11_valueAt_52 caX11_doesFit lX11_416 inX11_doesFit slX11_doesFit rfl ly_243 ⟨_, rfl, rfl⟩ rln_243 naX11_doesFit (Nat.le_of_ble_eq_true rfl) (Nat.le_of_ble_eq_true rfl) (by decide) (fun _ hq => wX11_doesFit q1 a1 μ hq) h (fun q3 h => ?_)
        refine rn_ifb_eq 55 68 dX11_valueAt_55 (by decide) h (fun _ h => ?_) (fun _ h => ?_)
        · refine rw_iconst 68 (v := -1) dX11_valueAt_68 (by decide) ?_
          exact rn_iret2 69 dX11_valueAt_69 rfl h
        · refine rw_iload_n 58 dX11_valueAt_58 2 rfl ?_
          refine rw_aload_n 59 dX11_valueAt_59 0 rfl ?_
          refine rw_iload_n 60 dX11_valueAt_60 3 rfl ?_
          refine rn_cVpi 61 11 [.int q1] dX11_valueAt_61 caX11_clashBits lX11_419 inX11_clashBits slX11_clashBits rfl ly_243 ⟨_, rfl, rfl⟩ rln_243 naX11_clashBits (Nat.le_of_ble_eq_true rfl) (Nat.le_of_ble_eq_true rfl) (by decide) (fun _ hq => wX11_clashBits q1 μ hq) h (fun q4 h => ?_)
          refine rw_iand 64 dX11_valueAt_64 ?_
          refine rn_if_eq 65 70 dX11_valueAt_65 (by decide) h (fun _ h => ?_) (fun _ h => ?_)
          · refine rw_iload 70 dX11_valueAt_70 4 rfl ?_
            refine rw_aload_n 72 dX11_valueAt_72 0 rfl ?_
            refine rw_iload_n 73 dX11_valueAt_73 3 rfl ?_
            refine rw_iload_n 74 dX11_valueAt_74 1 rfl ?_
            refine rw_iconst 75 (v := 0) dX11_valueAt_75 (by decide) ?_
            refine rn_cVmi 76 11 [.int q1, .int a1, .int 0] dX11_valueAt_76 caX11_paysAt lX11_374 inX11_paysAt slX11_paysAt rfl ly_243 ⟨_, rfl, rfl⟩ rln_243 naX11_paysAt (Nat.le_of_ble_eq_true rfl) (Nat.le_of_ble_eq_true rfl) (by decide) (fun _ hq => wX11_paysAt q1 a1 0 μ hq) h (fun q5 h => ?_)
            refine rw_iadd 79 dX11_valueAt_79 ?_
            exact rn_iret2 80 dX11_valueAt_80 rfl h
          · refine rw_iconst 68 (v := -1) dX11_valueAt_68 (by decide) ?_
            exact rn_iret2 69 dX11_valueAt_69 rfl h
  · refine rw_iconst 4 (v := 0) dX11_valueAt_4 (by decide) ?_
    exact rn_iret2 5 dX11_valueAt_5 rfl h
def fX11_fillsValues_21   (v1 : Int32)  (K : Mem → Option (Mem)) : Nat → Int32 → Mem → Option (Mem)
  | 0, _, _ => none
  | n + 1, v2, μ =>
    if inb (μ.1 243 18) 2 then
    if v2 < ((1 : Int32) <<< ((μ.1 256 (μ.1 243 18).toNatClampNeg) &&& 31)) then
      (fX11_valueAt v1 v2 μ).bind fun q2 =>
      if inb ((128 * v1) + v2) 512 then nm (wI q2.2 281 ((128 * v1) + v2).toNatClampNeg q2.1) fun μ3 =>
      fX11_fillsValues_21 v1 K n (v2 + 1) μ3
      else none
    else
      K μ
    else none
def fX11_fillsValues_6     (K : Mem → Option (Mem)) : Nat → Int32 → Mem → Option (Mem)
  | 0, _, _ => none
  | n + 1, v1, μ =>
    if inb (μ.1 243 18) 2 then
    if v1 < (μ.1 253 (μ.1 243 18).toNatClampNeg) then
      fX11_fillsValues_21 v1 (fun μ4 =>
          fX11_fillsValues_6 K n (v1 + 1) μ4
      ) FU 0 μ
    else
      K μ
    else none
def fX11_fillsValues  (μ : Mem) : Option (Mem) :=
  (fX11_copies μ).bind fun q1 =>
  fX11_fillsValues_6  (fun μ5 =>
      some μ5
  ) FU 0 q1
set_option maxRecDepth 100000 in
theorem wX11_fillsValues_21   (v1 : Int32)  (K : Mem → Option (Mem)) {res : Mem} (hK : ∀  (μ : Mem), K μ = some res → RW mX11_fillsValues 5 NF NF 60 [(0, .ref 243), (1, .int v1)] [] (μ, Rf0, NF) (QN none res Rf0 NF)) : ∀ (n9 : Nat) (v2 : Int32) (μ : Mem), fX11_fillsValues_21 v1 K n9 v2 μ = some res → RW mX11_fillsValues 5 NF NF 21 [(0, .ref 243), (1, .int v1), (2, .int v2)] [] (μ, Rf0, NF) (QN none res Rf0 NF) := by
  intro n9
  induction n9 with
  | zero => intro _ _ h; cases h
  | succ n ih =>
    intro v2 μ h
    unfold fX11_fillsValues_21 at h
    refine rw_iload_n 21 dX11_fillsValues_21 2 rfl ?_
    refine rw_iconst 22 (v := 1) dX11_fillsValues_22 (by decide) ?_
    refine rw_aload_n 23 dX11_fillsValues_23 0 rfl ?_
    refine rw_getR 24 11 26 kc11 dX11_fillsValues_24 ly_243 rln_243 fX11_55 rfl rf_243_26 ?_
    refine rw_aload_n 27 dX11_fillsValues_27 0 rfl ?_
    refine rw_getI 28 11 18 kc11 dX11_fillsValues_28 ly_243 rln_243 fX11_236 rfl ?_
    refine rn_iald 31 dX11_fillsValues_31 ly_256 rln_256 h (fun h => ?_)
    refine rw_ishl 32 dX11_fillsValues_32 ?_
    refine rn_icmp_ge 33 60 dX11_fillsValues_33 (by decide) h (fun _ h => ?_) (fun _ h => ?_)
    · refine rw_pick 60 [0, 1] rfl ?_
      exact hK μ h
    · refine rw_aload_n 36 dX11_fillsValues_36 0 rfl ?_
      refine rw_getR 37 11 58 kc11 dX11_fillsValues_37 ly_243 rln_243 fX11_131 rfl rf_243_58 ?_
      refine rw_sipush 40 (v := 128) dX11_fillsValues_40 (by decide) ?_
      refine rw_iload_n 43 dX11_fillsValues_43 1 rfl ?_
      refine rw_imul 44 dX11_fillsValues_44 ?_
      refine rw_iload_n 45 dX11_fillsValues_45 2 rfl ?_
      refine rw_iadd 46 dX11_fillsValues_46 ?_
      refine rw_aload_n 47 dX11_fillsValues_47 0 rfl ?_
      refine rw_iload_n 48 dX11_fillsValues_48 1 rfl ?_
      refine rw_iload_n 49 dX11_fillsValues_49 2 rfl ?_
      refine rn_cVmi 50 11 [.int v1, .int v2] dX11_fillsValues_50 caX11_valueAt lX11_437 inX11_valueAt slX11_valueAt rfl ly_243 ⟨_, rfl, rfl⟩ rln_243 naX11_valueAt (Nat.le_of_ble_eq_true rfl) (Nat.le_of_ble_eq_true rfl) (by decide) (fun _ hq => wX11_valueAt v1 v2 μ hq) h (fun q2 h => ?_)
      refine rn_iast 53 dX11_fillsValues_53 ly_281 rln_281 h (fun μ3 h => ?_)
      refine rw_iinc 54 [(0, .ref 243), (1, .int v1), (2, .int (v2 + 1))] dX11_fillsValues_54 2 rfl rfl (by decide) rfl ?_
      refine rw_goto 57 21 dX11_fillsValues_57 (by decide) ?_
      exact ih (v2 + 1) μ3 h
set_option maxRecDepth 100000 in
theorem wX11_fillsValues_6     (K : Mem → Option (Mem)) {res : Mem} (hK : ∀  (μ : Mem), K μ = some res → RW mX11_fillsValues 5 NF NF 66 [] [] (μ, Rf0, NF) (QN none res Rf0 NF)) : ∀ (n9 : Nat) (v1 : Int32) (μ : Mem), fX11_fillsValues_6 K n9 v1 μ = some res → RW mX11_fillsValues 5 NF NF 6 [(0, .ref 243), (1, .int v1)] [] (μ, Rf0, NF) (QN none res Rf0 NF) := by
  intro n9
  induction n9 with
  | zero => intro _ _ h; cases h
  | succ n ih =>
    intro v1 μ h
    unfold fX11_fillsValues_6 at h
    refine rw_iload_n 6 dX11_fillsValues_6 1 rfl ?_
    refine rw_aload_n 7 dX11_fillsValues_7 0 rfl ?_
    refine rw_getR 8 11 23 kc11 dX11_fillsValues_8 ly_243 rln_243 fX11_46 rfl rf_243_23 ?_
    refine rw_aload_n 11 dX11_fillsValues_11 0 rfl ?_
    refine rw_getI 12 11 18 kc11 dX11_fillsValues_12 ly_243 rln_243 fX11_236 rfl ?_
    refine rn_iald 15 dX11_fillsValues_15 ly_253 rln_253 h (fun h => ?_)
    refine rn_icmp_ge 16 66 dX11_fillsValues_16 (by decide) h (fun _ h => ?_) (fun _ h => ?_)
    · refine rw_pick 66 [] rfl ?_
      exact hK μ h
    · refine rw_iconst 19 (v := 0) dX11_fillsValues_19 (by decide) ?_
      refine rw_istore_n 20 [(0, .ref 243), (1, .int v1), (2, .int 0)] dX11_fillsValues_20 (by decide) rfl ?_
      refine wX11_fillsValues_21 v1 _ (fun μ4 h => ?_) FU 0 μ h
      refine rw_iinc 60 [(0, .ref 243), (1, .int (v1 + 1))] dX11_fillsValues_60 1 rfl rfl (by decide) rfl ?_
      refine rw_goto 63 6 dX11_fillsValues_63 (by decide) ?_
      exact ih (v1 + 1) μ4 h
set_option maxRecDepth 100000 in
theorem wX11_fillsValues  (μ : Mem) {res : Mem} (h : fX11_fillsValues  μ = some res) : Ct mX11_fillsValues 5 NF NF [.ref 243] (μ, Rf0, NF) (QN none res Rf0 NF) := by
  unfold fX11_fillsValues at h
  show RW mX11_fillsValues 5 NF NF 0 [(0, .ref 243)] [] (μ, Rf0, NF) (QN none res Rf0 NF)
  refine rw_aload_n 0 dX11_fillsValues_0 0 rfl ?_
  refine rn_cVmv 1 11 [] dX11_fillsValues_1 caX11_copies lX11_326 inX11_copies slX11_copies rfl ly_243 ⟨_, rfl, rfl⟩ rln_243 naX11_copies (Nat.le_of_ble_eq_true rfl) (Nat.le_of_ble_eq_true rfl) (by decide) (fun _ hq => wX11_copies μ hq) h (fun q1 h => ?_)
  refine rw_iconst 4 (v := 0) dX11_fillsValues_4 (by decide) ?_
  refine rw_istore_n 5 [(0, .ref 243), (1, .int 0)] dX11_fillsValues_5 (by decide) rfl ?_
  refine wX11_fillsValues_6 _ (fun μ5 h => ?_) FU 0 q1 h
  exact rn_vret 66 dX11_fillsValues_66 rfl h
