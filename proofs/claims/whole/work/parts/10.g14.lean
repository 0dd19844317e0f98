def fX11_change (a1 : Int32) (a2 : Int32) (μ : Mem) : Option (Int32 × Mem) :=
  (fX11_isGuest a1 μ).bind fun q1 =>
  if q1 = true then
    (fX11_isGuest a2 μ).bind fun q2 =>
    if q2 = true then
      if inb a1 31 then
      if (μ.1 276 a1.toNatClampNeg) < 0 then
        some ((-1), μ)
      else
        if inb a2 31 then
        if (μ.1 276 a2.toNatClampNeg) < 0 then
          some ((-1), μ)
        else
          if inb a1 31 then
          if inb a2 31 then
          if (μ.1 276 a1.toNatClampNeg) = (μ.1 276 a2.toNatClampNeg) then
            some ((-1), μ)
          else
            (fX11_copies μ).bind fun q3 =>
            if inb a1 31 then nm (wI q3 277 a1.toNatClampNeg (-2)) fun μ4 =>
            if inb a2 31 then nm (wI μ4 277 a2.toNatClampNeg (-2)) fun μ5 =>
            if inb a2 31 then
            (fX11_mayGoIn a1 (μ5.1 276 a2.toNatClampNeg) μ5).bind fun q6 =>
            if q6 = true then
              if inb a1 31 then
              (fX11_mayGoIn a2 (μ5.1 276 a1.toNatClampNeg) μ5).bind fun q7 =>
              if q7 = true then
                some (1, μ5)
              else
                some (0, μ5)
              else none
            else
              some (0, μ5)
            else none
            else none
            else none
          else none
          else none
        else none
      else none
    else
      some ((-1), μ)
  else
    some ((-1), μ)
set_option maxRecDepth 100000 in
theorem wX11_change (a1 : Int32) (a2 : Int32) (μ : Mem) {res : Int32 × Mem} (h : fX11_change a1 a2 μ = some res) : Ct mX11_change 5 NF NF [.ref 243, .int a1, .int a2] (μ, Rf0, NF) (QN (some (.int res.1)) res.2 Rf0 NF) := by
  unfold fX11_change at h
  show RW mX11_change 5 NF NF 0 [(0, .ref 243), (1, .int a1), (2, .int a2)] [] (μ, Rf0, NF) (QN (some (.int res.1)) res.2 Rf0 NF)
  refine rw_aload_n 0 dX11_change_0 0 rfl ?_
  refine rw_iload_n 1 dX11_change_1 1 rfl ?_
  refine rn_cVpb 2 11 [.int a1] dX11_change_2 caX11_isGuest lX11_410 inX11_isGuest slX11_isGuest rfl ly_243 ⟨_, rfl, rfl⟩ rln_243 naX11_isGuest (Nat.le_of_ble_eq_true rfl) (Nat.le_of_ble_eq_true rfl) (by decide) (fun _ hq => wX11_isGuest a1 μ hq) h (fun q1 h => ?_)
  refine rn_ifb_eq 5 49 dX11_change_5 (by decide) h (fun _ h => ?_) (fun _ h => ?_)
  · refine rw_iconst 49 (v := -1) dX11_change_49 (by decide) ?_
    exact rn_iret2 50 dX11_change_50 rfl h
  · refine rw_aload_n 8 dX11_change_8 0 rfl ?_
    refine rw_iload_n 9 dX11_change_9 2 rfl ?_
    refine rn_cVpb 10 11 [.int a2] dX11_change_10 caX11_isGuest lX11_410 inX11_isGuest slX11_isGuest rfl ly_243 ⟨_, rfl, rfl⟩ rln_243 naX11_isGuest (Nat.le_of_ble_eq_true rfl) (Nat.le_of_ble_eq_true rfl) (by decide) (fun _ hq => wX11_isGuest a2 μ hq) h (fun q2 h => ?_)
    refine rn_ifb_eq 13 49 dX11_change_13 (by decide) h (fun _ h => ?_) (fun _ h => ?_)
    · refine rw_iconst 49 (v := -1) dX11_change_49 (by decide) ?_
      exact rn_iret2 50 dX11_change_50 rfl h
    · refine rw_aload_n 16 dX11_change_16 0 rfl ?_
      refine rw_getR 17 11 50 kc11 dX11_change_17 ly_243 rln_243 fX11_116 rfl rf_243_50 ?_
      refine rw_iload_n 20 dX11_change_20 1 rfl ?_
      refine rn_iald 21 dX11_change_21 ly_276 rln_276 h (fun h => ?_)
      refine rn_if_lt 22 49 dX11_change_22 (by decide) h (fun _ h => ?_) (fun _ h => ?_)
      · refine rw_iconst 49 (v := -1) dX11_change_49 (by decide) ?_
        exact rn_iret2 50 dX11_change_50 rfl h
      · refine rw_aload_n 25 dX11_change_25 0 rfl ?_
        refine rw_getR 26 11 50 kc11 dX11_change_26 ly_243 rln_243 fX11_116 rfl rf_243_50 ?_
        refine rw_iload_n 29 dX11_change_29 2 rfl ?_
        refine rn_iald 30 dX11_change_30 ly_276 rln_276 h (fun h => ?_)
        refine rn_if_lt 31 49 dX11_change_31 (by decide) h (fun _ h => ?_) (fun _ h => ?_)
        · refine rw_iconst 49 (v := -1) dX11_change_49 (by decide) ?_
          exact rn_iret2 50 dX11_change_50 rfl h
        · refine rw_aload_n 34 dX11_change_34 0 rfl ?_
          refine rw_getR 35 11 50 kc11 dX11_change_35 ly_243 rln_243 fX11_116 rfl rf_243_50 ?_
          refine rw_iload_n 38 dX11_change_38 1 rfl ?_
          refine rn_iald 39 dX11_change_39 ly_276 rln_276 h (fun h => ?_)
          refine rw_aload_n 40 dX11_change_40 0 rfl ?_
          refine rw_getR 41 11 50 kc11 dX11_change_41 ly_243 rln_243 fX11_116 rfl rf_243_50 ?_
          refine rw_iload_n 44 dX11_change_44 2 rfl ?_
          refine rn_iald 45 dX11_change_45 ly_276 rln_276 h (fun h => ?_)
          refine rn_icmp_ne 46 51 dX11_change_46 (by decide) h (fun _ h => ?_) (fun _ h => ?_)
          · refine rw_aload_n 51 dX11_change_51 0 rfl ?_
            refine rn_cVmv 52 11 [] dX11_change_52 caX11_copies lX11_326 inX11_copies slX11_copies rfl ly_243 ⟨_, rfl, rfl⟩ rln_243 naX11_copies (Nat.le_of_ble_eq_true rfl) (Nat.le_of_ble_eq_true rfl) (by decide) (fun _ hq => wX11_copies μ hq) h (fun q3 h => ?_)
            refine rw_aload_n 55 dX11_change_55 0 rfl ?_
            refine rw_getR 56 11 51 kc11 dX11_change_56 ly_243 rln_243 fX11_119 rfl rf_243_51 ?_
            refine rw_iload_n 59 dX11_change_59 1 rfl ?_
            refine rw_bipush 60 (v := -2) dX11_change_60 (by decide) ?_
            refine rn_iast 62 dX11_change_62 ly_277 rln_277 h (fun μ4 h => ?_)
            refine rw_aload_n 63 dX11_change_63 0 rfl ?_
            refine rw_getR 64 11 51 kc11 dX11_change_64 ly_243 rln_243 fX11_119 rfl rf_243_51 ?_
            refine rw_iload_n 67 dX11_change_67 2 rfl ?_
            refine rw_bipush 68 (v := -2) dX11_change_68 (by decide) ?_
            refine rn_iast 70 dX11_change_70 ly_277 rln_277 h (fun μ5 h => ?_)
            refine rw_aload_n 71 dX11_change_71 0 rfl ?_
            refine rw_iload_n 72 dX11_change_72 1 rfl ?_
            refine rw_aload_n 73 dX11_change_73 0 rfl ?_
            refine rw_getR 74 11 50 kc11 dX11_change_74 ly_243 rln_243 fX11_116 rfl rf_243_50 ?_
            refine rw_iload_n 77 dX11_change_77 2 rfl ?_
            refine rn_iald 78 dX11_change_78 ly_276 rln_276 h (fun h => ?_)
            refine rn_cVpb 79 11 [.int a1, .int (μ5.1 276 a2.toNatClampNeg)] dX11_change_79 caX11_mayGoIn lX11_422 inX11_mayGoIn slX11_mayGoIn rfl ly_243 ⟨_, rfl, rfl⟩ rln_243 naX11_mayGoIn (Nat.le_of_ble_eq_true rfl) (Nat.le_of_ble_eq_true rfl) (by decide) (fun _ hq => wX11_mayGoIn a1 (μ5.1 276 a2.toNatClampNeg) μ5 hq) h (fun q6 h => ?_)
            refine rn_ifb_eq 82 103 dX11_change_82 (by decide) h (fun _ h => ?_) (fun _ h => ?_)
            · refine rw_iconst 103 (v := 0) dX11_change_103 (by decide) ?_
              exact rn_iret2 104 dX11_change_104 rfl h
            · refine rw_aload_n 85 dX11_change_85 0 rfl ?_
              refine rw_iload_n 86 dX11_change_86 2 rfl ?_
              refine rw_aload_n 87 dX11_change_87 0 rfl ?_
              refine rw_getR 88 11 50 kc11 dX11_change_88 ly_243 rln_243 fX11_116 rfl rf_243_50 ?_
              refine rw_iload_n 91 dX11_change_91 1 rfl ?_
              refine rn_iald 92 dX11_change_92 ly_276 rln_276 h (fun h => ?_)
              refine rn_cVpb 93 11 [.int a2, .int (μ5.1 276 a1.toNatClampNeg)] dX11_change_93 caX11_mayGoIn lX11_422 inX11_mayGoIn slX11_mayGoIn rfl ly_243 ⟨_, rfl, rfl⟩ rln_243 naX11_mayGoIn (Nat.le_of_ble_eq_true rfl) (Nat.le_of_ble_eq_true rfl) (by decide) (fun _ hq => wX11_mayGoIn a2 (μ5.1 276 a1.toNatClampNeg) μ5 hq) h (fun q7 h => ?_)
              refine rn_ifb_eq 96 103 dX11_change_96 (by decide) h (fun _ h => ?_) (fun _ h => ?_)
              · refine rw_iconst 103 (v := 0) dX11_change_103 (by decide) ?_
                exact rn_iret2 104 dX11_change_104 rfl h
              · refine rw_iconst 99 (v := 1) dX11_change_99 (by decide) ?_
                refine rw_goto 100 104 dX11_change_100 (by decide) ?_
                exact rn_iret2 104 dX11_change_104 rfl h
          · refine rw_iconst 49 (v := -1) dX11_change_49 (by decide) ?_
            exact rn_iret2 50 dX11_change_50 rfl h
def fX11_room_26   (v1 : Int32) (μ : Mem) (K : Int32 → Option (Int32 × Mem)) : Nat → Int32 → Int32 → Option (Int32 × Mem)
  | 0, _, _ => none
  | n + 1, v2, v3 =>
    if inb (μ.1 243 18) 2 then
    if v3 < (μ.1 253 (μ.1 243 18).toNatClampNeg) then
      (fX11_mayGoIn v1 v3 μ).bind fun q4 =>
      if q4 = true then
        nm (v2 ||| ((1 : Int32) <<< (v3 &&& 31))) fun x5 =>
        fX11_room_26 v1 μ K n x5 (v3 + 1)
      else
        fX11_room_26 v1 μ K n v2 (v3 + 1)
    else
      K v2
    else none
def fX11_room (a1 : Int32) (μ : Mem) : Option (Int32 × Mem) :=
  (fX11_isGuest a1 μ).bind fun q1 =>
  if q1 = true then
    (fX11_copies μ).bind fun q2 =>
    if inb a1 31 then nm (wI q2 277 a1.toNatClampNeg (-2)) fun μ3 =>
    fX11_room_26 a1 μ3 (fun y6 =>
        some (y6, μ3)
    ) FU 0 0
    else none
  else
    some ((-1), μ)
set_option maxRecDepth 100000 in
theorem wX11_room_26   (v1 : Int32) (μ : Mem) (K : Int32 → Option (Int32 × Mem)) {res : Int32 × Mem} (hK : ∀ (v2 : Int32), K v2 = some res → RW mX11_room 5 NF NF 60 [(2, .int v2)] [] (μ, Rf0, NF) (QN (some (.int res.1)) res.2 Rf0 NF)) : ∀ (n9 : Nat) (v2 : Int32) (v3 : Int32), fX11_room_26 v1 μ K n9 v2 v3 = some res → RW mX11_room 5 NF NF 26 [(0, .ref 243), (1, .int v1), (2, .int v2), (3, .int v3)] [] (μ, Rf0, NF) (QN (some (.int res.1)) res.2 Rf0 NF) := by
  intro n9
  induction n9 with
  | zero => intro _ _ h; cases h
  | succ n ih =>
    intro v2 v3 h
    unfold fX11_room_26 at h
    refine rw_iload_n 26 dX11_room_26 3 rfl ?_
    refine rw_aload_n 27 dX11_room_27 0 rfl ?_
    refine rw_getR 28 11 23 kc11 dX11_room_28 ly_243 rln_243 fX11_46 rfl rf_243_23 ?_
    refine rw_aload_n 31 dX11_room_31 0 rfl ?_
    refine rw_getI 32 11 18 kc11 dX11_room_32 ly_243 rln_243 fX11_236 rfl ?_
    refine rn_iald 35 dX11_room_35 ly_253 rln_253 h (fun h => ?_)
    refine rn_icmp_ge 36 60 dX11_room_36 (by decide) h (fun _ h => ?_) (fun _ h => ?_)
    · refine rw_pick 60 [2] rfl ?_
      exact hK v2 h
    · refine rw_aload_n 39 dX11_room_39 0 rfl ?_
      refine rw_iload_n 40 dX11_room_40 1 rfl ?_
      refine rw_iload_n 41 dX11_room_41 3 rfl ?_
      refine rn_cVpb 42 11 [.int v1, .int v3] dX11_room_42 caX11_mayGoIn lX11_422 inX11_mayGoIn slX11_mayGoIn rfl ly_243 ⟨_, rfl, rfl⟩ rln_243 naX11_mayGoIn (Nat.le_of_ble_eq_true rfl) (Nat.le_of_ble_eq_true rfl) (by decide) (fun _ hq => wX11_mayGoIn v1 v3 μ hq) h (fun q4 h => ?_)
      refine rn_ifb_eq 45 54 dX11_room_45 (by decide) h (fun _ h => ?_) (fun _ h => ?_)
      · refine rw_iinc 54 [(0, .ref 243), (1, .int v1), (2, .int v2), (3, .int (v3 + 1))] dX11_room_54 3 rfl rfl (by decide) rfl ?_
        refine rw_goto 57 26 dX11_room_57 (by decide) ?_
        exact ih v2 (v3 + 1) h
      · refine rw_iload_n 48 dX11_room_48 2 rfl ?_
        refine rw_iconst 49 (v := 1) dX11_room_49 (by decide) ?_
        refine rw_iload_n 50 dX11_room_50 3 rfl ?_
        refine rw_ishl 51 dX11_room_51 ?_
        refine rw_ior 52 dX11_room_52 ?_
        refine rn_ist_n 53 (fun x5 => [(0, .ref 243), (1, .int v1), (2, .int x5), (3, .int v3)]) dX11_room_53 (by decide) (fun _ => rfl) h (fun x5 h => ?_)
        refine rw_iinc 54 [(0, .ref 243), (1, .int v1), (2, .int x5), (3, .int (v3 + 1))] dX11_room_54 3 rfl rfl (by decide) rfl ?_
        refine rw_goto 57 26 dX11_room_57 (by decide) ?_
        exact ih x5 (v3 + 1) h
set_option maxRecDepth 100000 in
theorem wX11_room (a1 : Int32) (μ : Mem) {res : Int32 × Mem} (h : fX11_room a1 μ = some res) : Ct mX11_room 5 NF NF [.ref 243, .int a1] (μ, Rf0, NF) (QN (some (.int res.1)) res.2 Rf0 NF) := by
  unfold fX11_room at h
  show RW mX11_room 5 NF NF 0 [(0, .ref 243), (1, .int a1)] [] (μ, Rf0, NF) (QN (some (.int res.1)) res.2 Rf0 NF)
  refine rw_aload_n 0 dX11_room_0 0 rfl ?_
  refine rw_iload_n 1 dX11_room_1 1 rfl ?_
  refine rn_cVpb 2 11 [.int a1] dX11_room_2 caX11_isGuest lX11_410 inX11_isGuest slX11_isGuest rfl ly_243 ⟨_, rfl, rfl⟩ rln_243 naX11_isGuest (Nat.le_of_ble_eq_true rfl) (Nat.le_of_ble_eq_true rfl) (by decide) (fun _ hq => wX11_isGuest a1 μ hq) h (fun q1 h => ?_)
  refine rn_ifb_ne 5 10 dX11_room_5 (by decide) h (fun _ h => ?_) (fun _ h => ?_)
  · refine rw_aload_n 10 dX11_room_10 0 rfl ?_
    refine rn_cVmv 11 11 [] dX11_room_11 caX11_copies lX11_326 inX11_copies slX11_copies rfl ly_243 ⟨_, rfl, rfl⟩ rln_243 naX11_copies (Nat.le_of_ble_eq_true rfl) (Nat.le_of_ble_eq_true rfl) (by decide) (fun _ hq => wX11_copies μ hq) h (fun q2 h => ?_)
    refine rw_aload_n 14 dX11_room_14 0 rfl ?_
    refine rw_getR 15 11 51 kc11 dX11_room_15 ly_243 rln_243 fX11_119 rfl rf_243_51 ?_
    refine rw_iload_n 18 dX11_room_18 1 rfl ?_
    refine rw_bipush 19 (v := -2) dX11_room_19 (by decide) ?_
    refine rn_iast 21 dX11_room_21 ly_277 rln_277 h (fun μ3 h => ?_)
    refine rw_iconst 22 (v := 0) dX11_room_22 (by decide) ?_
    refine rw_istore_n 23 [(0, .ref 243), (1, .int a1), (2, .int 0)] dX11_room_23 (by decide) rfl ?_
    refine rw_iconst 24 (v := 0) dX11_room_24 (by decide) ?_
    refine rw_istore_n 25 [(0, .ref 243), (1, .int a1), (2, .int 0), (3, .int 0)] dX11_room_25 (by decide) rfl ?_
    refine wX11_room_26 a1 μ3 _ (fun y6 h => ?_) FU 0 0 h
    refine rw_iload_n 60 dX11_room_60 0 rfl ?_
    exact rn_iret2 61 dX11_room_61 rfl h
  · refine rw_iconst 8 (v := -1) dX11_room_8 (by decide) ?_
    exact rn_iret2 9 dX11_room_9 rfl h
def fX11_payer_20   (v1 : Int32)  (K : Int32 → Mem → Option (Int32 × Mem)) : Nat → Int32 → Int32 → Mem → Option (Int32 × Mem)
  | 0, _, _, _ => none
  | n + 1, v2, v3, μ =>
    if inb (μ.1 243 18) 2 then
    if v3 < (μ.1 256 (μ.1 243 18).toNatClampNeg) then
      if inb v3 31 then
      if (μ.1 277 v3.toNatClampNeg) < 0 then
        fX11_payer_20 v1 K n v2 (v3 + 1) μ
      else
        if v2 < 0 then
          fX11_payer_20 v1 K n v3 (v3 + 1) μ
        else
          (fX11_paysOf v3 μ).bind fun q3 =>
          (fX11_paysOf v2 q3.2).bind fun q4 =>
          if q4.1 < q3.1 then
            fX11_payer_20 v1 K n v3 (v3 + 1) q4.2
          else
            fX11_payer_20 v1 K n v2 (v3 + 1) q4.2
      else none
    else
      K v2 μ
    else none
def fX11_payer (a1 : Int32) (μ : Mem) : Option (Int32 × Mem) :=
  (fX11_in a1 0 1 μ).bind fun q1 =>
  if q1 = true then
    (fX11_copies μ).bind fun q2 =>
    fX11_payer_20 a1 (fun y5 μ6 =>
        if y5 < 0 then
          some (y5, μ6)
        else
          if a1 = 0 then
            some (y5, μ6)
          else
            (fX11_paysOf y5 μ6).bind fun q7 =>
            some (q7.1, q7.2)
    ) FU (-2) 0 q2
  else
    some ((-1), μ)
set_option maxRecDepth 100000 in
theorem wX11_payer_20   (v1 : Int32)  (K : Int32 → Mem → Option (Int32 × Mem)) {res : Int32 × Mem} (hK : ∀ (v2 : Int32) (μ : Mem), K v2 μ = some res → RW mX11_payer 5 NF NF 67 [(0, .ref 243), (1, .int v1), (2, .int v2)] [] (μ, Rf0, NF) (QN (some (.int res.1)) res.2 Rf0 NF)) : ∀ (n9 : Nat) (v2 : Int32) (v3 : Int32) (μ : Mem), fX11_payer_20 v1 K n9 v2 v3 μ = some res → RW mX11_payer 5 NF NF 20 [(0, .ref 243), (1, .int v1), (2, .int v2), (3, .int v3)] [] (μ, Rf0, NF) (QN (some (.int res.1)) res.2 Rf0 NF) := by
  intro n9
  induction n9 with
  | zero => intro _ _ _ h; cases h
  | succ n ih =>
    intro v2 v3 μ h
    unfold fX11_payer_20 at h
    refine rw_iload_n 20 dX11_payer_20 3 rfl ?_
    refine rw_aload_n 21 dX11_payer_21 0 rfl ?_
    refine rw_getR 22 11 26 kc11 dX11_payer_22 ly_243 rln_243 fX11_55 rfl rf_243_26 ?_
    refine rw_aload_n 25 dX11_payer_25 0 rfl ?_
    refine rw_getI 26 11 18 kc11 dX11_payer_26 ly_243 rln_243 fX11_236 rfl ?_
    refine rn_iald 29 dX11_payer_29 ly_256 rln_256 h (fun h => ?_)
    refine rn_icmp_ge 30 67 dX11_payer_30 (by decide) h (fun _ h => ?_) (fun _ h => ?_)
    · refine rw_pick 67 [0, 1, 2] rfl ?_
      exact hK v2 μ h
    · refine rw_aload_n 33 dX11_payer_33 0 rfl ?_
      refine rw_getR 34 11 51 kc11 dX11_payer_34 ly_243 rln_243 fX11_119 rfl rf_243_51 ?_
      refine rw_iload_n 37 dX11_payer_37 3 rfl ?_
      refine rn_iald 38 dX11_payer_38 ly_277 rln_277 h (fun h => ?_)
      refine rn_if_lt 39 61 dX11_payer_39 (by decide) h (fun _ h => ?_) (fun _ h => ?_)
      · refine rw_iinc 61 [(0, .ref 243), (1, .int v1), (2, .int v2), (3, .int (v3 + 1))] dX11_payer_61 3 rfl rfl (by decide) rfl ?_
        refine rw_goto 64 20 dX11_payer_64 (by decide) ?_
        exact ih v2 (v3 + 1) μ h
      · refine rw_iload_n 42 dX11_payer_42 2 rfl ?_
        refine rn_if_lt 43 59 dX11_payer_43 (by decide) h (fun _ h => ?_) (fun _ h => ?_)
        · refine rw_iload_n 59 dX11_payer_59 3 rfl ?_
          refine rw_istore_n 60 [(0, .ref 243), (1, .int v1), (2, .int v3), (3, .int v3)] dX11_payer_60 (by decide) rfl ?_
          refine rw_iinc 61 [(0, .ref 243), (1, .int v1), (2, .int v3), (3, .int (v3 + 1))] dX11_payer_61 3 rfl rfl (by decide) rfl ?_
          refine rw_goto 64 20 dX11_payer_64 (by decide) ?_
          exact ih v3 (v3 + 1) μ h
        · refine rw_aload_n 46 dX11_payer_46 0 rfl ?_
          refine rw_iload_n 47 dX11_payer_47 3 rfl ?_
          refine rn_cVmi 48 11 [.int v3] dX11_payer_48 caX11_paysOf lX11_380 inX11_paysOf slX11_paysOf rfl ly_243 ⟨_, rfl, rfl⟩ rln_243 naX11_paysOf (Nat.le_of_ble_eq_true rfl) (Nat.le_of_ble_eq_true rfl) (by decide) (fun _ hq => wX11_paysOf v3 μ hq) h (fun q3 h => ?_)
          refine rw_aload_n 51 dX11_payer_51 0 rfl ?_
          refine rw_iload_n 52 dX11_payer_52 2 rfl ?_
          refine rn_cVmi 53 11 [.int v2] dX11_payer_53 caX11_paysOf lX11_380 inX11_paysOf slX11_paysOf rfl ly_243 ⟨_, rfl, rfl⟩ rln_243 naX11_paysOf (Nat.le_of_ble_eq_true rfl) (Nat.le_of_ble_eq_true rfl) (by decide) (fun _ hq => wX11_paysOf v2 q3.2 hq) h (fun q4 h => ?_)
          refine rn_icmp_le 56 61 dX11_payer_56 (by decide) h (fun _ h => ?_) (fun _ h => ?_)
          · refine rw_iinc 61 [(0, .ref 243), (1, .int v1), (2, .int v2), (3, .int (v3 + 1))] dX11_payer_61 3 rfl rfl (by decide) rfl ?_
            refine rw_goto 64 20 dX11_payer_64 (by decide) ?_
            exact ih v2 (v3 + 1) q4.2 h
          · refine rw_iload_n 59 dX11_payer_59 3 rfl ?_
            refine rw_istore_n 60 [(0, .ref 243), (1, .int v1), (2, .int v3), (3, .int v3)] dX11_payer_60 (by decide) rfl ?_
            refine rw_iinc 61 [(0, .ref 243), (1, .int v1), (2, .int v3), (3, .int (v3 + 1))] dX11_payer_61 3 rfl rfl (by decide) rfl ?_
            refine rw_goto 64 20 dX11_payer_64 (by decide) ?_
            exact ih v3 (v3 + 1) q4.2 h
set_option maxRecDepth 100000 in
theorem wX11_payer (a1 : Int32) (μ : Mem) {res : Int32 × Mem} (h : fX11_payer a1 μ = some res) : Ct mX11_payer 5 NF NF [.ref 243, .int a1] (μ, Rf0, NF) (QN (some (.int res.1)) res.2 Rf0 NF) := by
  unfold fX11_payer at h
  show RW mX11_payer 5 NF NF 0 [(0, .ref 243), (1, .int a1)] [] (μ, Rf0, NF) (QN (some (.int res.1)) res.2 Rf0 NF)
  refine rw_iload_n 0 dX11_payer_0 1 rfl ?_
  refine rw_iconst 1 (v := 0) dX11_payer_1 (by decide) ?_
  refine rw_iconst 2 (v := 1) dX11_payer_2 (by decide) ?_
  refine rn_cSpb 3 [.int a1, .int 0, .int 1] dX11_payer_3 caX11_in lX11_316 stX11_in rfl naX11_in (Nat.le_of_ble_eq_true rfl) (Nat.le_of_ble_eq_true rfl) (by decide) (fun _ hq => wX11_in a1 0 1 μ hq) h (fun q1 h => ?_)
  refine rn_ifb_ne 6 11 dX11_payer_6 (by decide) h (fun _ h => ?_) (fun _ h => ?_)
  · refine rw_aload_n 11 dX11_payer_11 0 rfl ?_
    refine rn_cVmv 12 11 [] dX11_payer_12 caX11_copies lX11_326 inX11_copies slX11_copies rfl ly_243 ⟨_, rfl, rfl⟩ rln_243 naX11_copies (Nat.le_of_ble_eq_true rfl) (Nat.le_of_ble_eq_true rfl) (by decide) (fun _ hq => wX11_copies μ hq) h (fun q2 h => ?_)
    refine rw_bipush 15 (v := -2) dX11_payer_15 (by decide) ?_
    refine rw_istore_n 17 [(0, .ref 243), (1, .int a1), (2, .int (-2))] dX11_payer_17 (by decide) rfl ?_
    refine rw_iconst 18 (v := 0) dX11_payer_18 (by decide) ?_
    refine rw_istore_n 19 [(0, .ref 243), (1, .int a1), (2, .int (-2)), (3, .int 0)] dX11_payer_19 (by decide) rfl ?_
    refine wX11_payer_20 a1 _ (fun y5 μ6 h => ?_) FU (-2) 0 q2 h
    refine rw_iload_n 67 dX11_payer_67 2 rfl ?_
    refine rn_if_lt 68 75 dX11_payer_68 (by decide) h (fun _ h => ?_) (fun _ h => ?_)
    · refine rw_iload_n 75 dX11_payer_75 2 rfl ?_
      refine rw_goto 76 84 dX11_payer_76 (by decide) ?_
      exact rn_iret2 84 dX11_payer_84 rfl h
    · refine rw_iload_n 71 dX11_payer_71 1 rfl ?_
      refine rn_if_ne 72 79 dX11_payer_72 (by decide) h (fun _ h => ?_) (fun _ h => ?_)
      · refine rw_aload_n 79 dX11_payer_79 0 rfl ?_
        refine rw_iload_n 80 dX11_payer_80 2 rfl ?_
        refine rn_cVmi 81 11 [.int y5] dX11_payer_81 caX11_paysOf lX11_380 inX11_paysOf slX11_paysOf rfl ly_243 ⟨_, rfl, rfl⟩ rln_243 naX11_paysOf (Nat.le_of_ble_eq_true rfl) (Nat.le_of_ble_eq_true rfl) (by decide) (fun _ hq => wX11_paysOf y5 μ6 hq) h (fun q7 h => ?_)
        exact rn_iret2 84 dX11_payer_84 rfl h
      · refine rw_iload_n 75 dX11_payer_75 2 rfl ?_
        refine rw_goto 76 84 dX11_payer_76 (by decide) ?_
        exact rn_iret2 84 dX11_payer_84 rfl h
  · refine rw_iconst 9 (v := -1) dX11_payer_9 (by decide) ?_
    exact rn_iret2 10 dX11_payer_10 rfl h
def fX11_idle_8    (μ : Mem) (K : Int32 → Option (Int32 × Mem)) : Nat → Int32 → Int32 → Option (Int32 × Mem)
  | 0, _, _ => none
  | n + 1, v1, v2 =>
    if inb (μ.1 243 18) 2 then
    if v2 < (μ.1 253 (μ.1 243 18).toNatClampNeg) then
      if inb (25 + v2) 31 then
      if (μ.1 277 (25 + v2).toNatClampNeg) = 0 then
        if inb ((4 * (μ.1 243 18)) + v2) 8 then
        (fX11_hoursTaken v2 μ).bind fun q2 =>
        nm (v1 + ((μ.1 254 ((4 * (μ.1 243 18)) + v2).toNatClampNeg) - q2)) fun x3 =>
        fX11_idle_8 μ K n x3 (v2 + 1)
        else none
      else
        fX11_idle_8 μ K n v1 (v2 + 1)
      else none
    else
      K v1
    else none
def fX11_idle  (μ : Mem) : Option (Int32 × Mem) :=
  (fX11_copies μ).bind fun q1 =>
  fX11_idle_8 q1 (fun y4 =>
      some (y4, q1)
  ) FU 0 0
set_option maxRecDepth 100000 in
theorem wX11_idle_8    (μ : Mem) (K : Int32 → Option (Int32 × Mem)) {res : Int32 × Mem} (hK : ∀ (v1 : Int32), K v1 = some res → RW mX11_idle 2 NF NF 61 [(1, .int v1)] [] (μ, Rf0, NF) (QN (some (.int res.1)) res.2 Rf0 NF)) : ∀ (n9 : Nat) (v1 : Int32) (v2 : Int32), fX11_idle_8 μ K n9 v1 v2 = some res → RW mX11_idle 2 NF NF 8 [(0, .ref 243), (1, .int v1), (2, .int v2)] [] (μ, Rf0, NF) (QN (some (.int res.1)) res.2 Rf0 NF) := by
  intro n9
  induction n9 with
  | zero => intro _ _ h; cases h
  | succ n ih =>
    intro v1 v2 h
    unfold fX11_idle_8 at h
    refine rw_iload_n 8 dX11_idle_8 2 rfl ?_
    refine rw_aload_n 9 dX11_idle_9 0 rfl ?_
    refine rw_getR 10 11 23 kc11 dX11_idle_10 ly_243 rln_243 fX11_46 rfl rf_243_23 ?_
    refine rw_aload_n 13 dX11_idle_13 0 rfl ?_
    refine rw_getI 14 11 18 kc11 dX11_idle_14 ly_243 rln_243 fX11_236 rfl ?_
    refine rn_iald 17 dX11_idle_17 ly_253 rln_253 h (fun h => ?_)
    refine rn_icmp_ge 18 61 dX11_idle_18 (by decide) h (fun _ h => ?_) (fun _ h => ?_)
    · refine rw_pick 61 [1] rfl ?_
      exact hK v1 h
    · refine rw_aload_n 21 dX11_idle_21 0 rfl ?_
      refine rw_getR 22 11 51 kc11 dX11_idle_22 ly_243 rln_243 fX11_119 rfl rf_243_51 ?_
      refine rw_bipush 25 (v := 25) dX11_idle_25 (by decide) ?_
      refine rw_iload_n 27 dX11_idle_27 2 rfl ?_
      refine rw_iadd 28 dX11_idle_28 ?_
      refine rn_iald 29 dX11_idle_29 ly_277 rln_277 h (fun h => ?_)
      refine rn_if_ne 30 55 dX11_idle_30 (by decide) h (fun _ h => ?_) (fun _ h => ?_)
      · refine rw_iinc 55 [(0, .ref 243), (1, .int v1), (2, .int (v2 + 1))] dX11_idle_55 2 rfl rfl (by decide) rfl ?_
        refine rw_goto 58 8 dX11_idle_58 (by decide) ?_
        exact ih v1 (v2 + 1) h
      · refine rw_iload_n 33 dX11_idle_33 1 rfl ?_
        refine rw_aload_n 34 dX11_idle_34 0 rfl ?_
        refine rw_getR 35 11 24 kc11 dX11_idle_35 ly_243 rln_243 fX11_49 rfl rf_243_24 ?_
        refine rw_iconst 38 (v := 4) dX11_idle_38 (by decide) ?_
        refine rw_aload_n 39 dX11_idle_39 0 rfl ?_
        refine rw_getI 40 11 18 kc11 dX11_idle_40 ly_243 rln_243 fX11_236 rfl ?_
        refine rw_imul 43 dX11_idle_43 ?_
        refine rw_iload_n 44 dX11_idle_44 2 rfl ?_
        refine rw_iadd 45 dX11_idle_45 ?_
        refine rn_iald 46 dX11_idle_46 ly_254 rln_254 h (fun h => ?_)
        refine rw_aload_n 47 dX11_idle_47 0 rfl ?_
        refine rw_iload_n 48 dX11_idle_48 2 rfl ?_
        refine rn_cVpi 49 11 [.int v2] dX11_idle_49 caX11_hoursTaken lX11_359 inX11_hoursTaken slX11_hoursTaken rfl ly_243 ⟨_, rfl, rfl⟩ rln_243 naX11_hoursTaken (Nat.le_of_ble_eq_true rfl) (Nat.le_of_ble_eq_true rfl) (by decide) (fun _ hq => wX11_hoursTaken v2 μ hq) h (fun q2 h => ?_)
        refine rw_isub 52 dX11_idle_52 ?_
        refine rw_iadd 53 dX11_idle_53 ?_
        refine rn_ist_n 54 (fun x3 => [(0, .ref 243), (1, .int x3), (2, .int v2)]) dX11_idle_54 (by decide) (fun _ => rfl) h (fun x3 h => ?_)
        refine rw_iinc 55 [(0, .ref 243), (1, .int x3), (2, .int (v2 + 1))] dX11_idle_55 2 rfl rfl (by decide) rfl ?_
        refine rw_goto 58 8 dX11_idle_58 (by decide) ?_
        exact ih x3 (v2 + 1) h
set_option maxRecDepth 100000 in
theorem wX11_idle  (μ : Mem) {res : Int32 × Mem} (h : fX11_idle  μ = some res) : Ct mX11_idle 2 NF NF [.ref 243] (μ, Rf0, NF) (QN (some (.int res.1)) res.2 Rf0 NF) := by
  unfold fX11_idle at h
  show RW mX11_idle 2 NF NF 0 [(0, .ref 243)] [] (μ, Rf0, NF) (QN (some (.int res.1)) res.2 Rf0 NF)
  refine rw_aload_n 0 dX11_idle_0 0 rfl ?_
  refine rn_cVmv 1 11 [] dX11_idle_1 caX11_copies lX11_326 inX11_copies slX11_copies rfl ly_243 ⟨_, rfl, rfl⟩ rln_243 naX11_copies (Nat.le_of_ble_eq_true rfl) (Nat.le_of_ble_eq_true rfl) (by decide) (fun _ hq => wX11_copies μ hq) h (fun q1 h => ?_)
  refine rw_iconst 4 (v := 0) dX11_idle_4 (by decide) ?_
  refine rw_istore_n 5 [(0, .ref 243), (1, .int 0)] dX11_idle_5 (by decide) rfl ?_
  refine rw_iconst 6 (v := 0) dX11_idle_6 (by decide) ?_
  refine rw_istore_n 7 [(0, .ref 243), (1, .int 0), (2, .int 0)] dX11_idle_7 (by decide) rfl ?_
  refine wX11_idle_8 q1 _ (fun y4 h => ?_) FU 0 0 h
  refine rw_iload_n 61 dX11_idle_61 0 rfl ?_
  exact rn_iret2 62 dX11_idle_62 rfl h
def fX11_gap_35   (v1 : Int32) (v2 : Int32) (μ : Mem) (K : Int32 → Int32 → Option (Int32 × Mem)) : Nat → Int32 → Int32 → Int32 → Int32 → Option (Int32 × Mem)
  | 0, _, _, _, _ => none
  | n + 1, v3, v4, v5, v6 =>
    if inb ((4 * (μ.1 243 18)) + v1) 8 then
    if v6 < (μ.1 254 ((4 * (μ.1 243 18)) + v1).toNatClampNeg) then
      (fX11_whoIsAt v1 v6 μ).bind fun q4 =>
      if q4 < 0 then
        if v4 < (v5 + 1) then
          nm ((v6 - (v5 + 1)) + 1) fun x5 =>
          fX11_gap_35 v1 v2 μ K n x5 (v5 + 1) (v5 + 1) (v6 + 1)
        else
          fX11_gap_35 v1 v2 μ K n v3 v4 (v5 + 1) (v6 + 1)
      else
        if v4 < 0 then
          nm ((v6 - 0) + 1) fun x6 =>
          fX11_gap_35 v1 v2 μ K n x6 0 0 (v6 + 1)
        else
          fX11_gap_35 v1 v2 μ K n v3 v4 0 (v6 + 1)
    else
      K v3 v4
    else none
def fX11_gap (a1 : Int32) (a2 : Int32) (μ : Mem) : Option (Int32 × Mem) :=
  (fX11_isSunday a1 μ).bind fun q1 =>
  if q1 = true then
    (fX11_in a2 0 1 μ).bind fun q2 =>
    if q2 = true then
      (fX11_copies μ).bind fun q3 =>
      fX11_gap_35 a1 a2 q3 (fun y7 y8 =>
          if a2 = 0 then
            some (y8, q3)
          else
            some (y7, q3)
      ) FU (-2) 0 0 0
    else
      some ((-1), μ)
  else
    some ((-1), μ)
set_option maxRecDepth 100000 in
theorem wX11_gap_35   (v1 : Int32) (v2 : Int32) (μ : Mem) (K : Int32 → Int32 → Option (Int32 × Mem)) {res : Int32 × Mem} (hK : ∀ (v3 : Int32) (v4 : Int32), K v3 v4 = some res → RW mX11_gap 3 NF NF 101 [(2, .int v2), (3, .int v3), (4, .int v4)] [] (μ, Rf0, NF) (QN (some (.int res.1)) res.2 Rf0 NF)) : ∀ (n9 : Nat) (v3 : Int32) (v4 : Int32) (v5 : Int32) (v6 : Int32), fX11_gap_35 v1 v2 μ K n9 v3 v4 v5 v6 = some res → RW mX11_gap 3 NF NF 35 [(0, .ref 243), (1, .int v1), (2, .int v2), (3, .int v3), (4, .int v4), (5, .int v5), (6, .int v6)] [] (μ, Rf0, NF) (QN (some (.int res.1)) res.2 Rf0 NF) := by
  intro n9
  induction n9 with
  | zero => intro _ _ _ _ h; cases h
  | succ n ih =>
    intro v3 v4 v5 v6 h
    unfold fX11_gap_35 at h
    refine rw_iload 35 dX11_gap_35 6 rfl ?_
    refine rw_aload_n 37 dX11_gap_37 0 rfl ?_
    refine rw_getR 38 11 24 kc11 dX11_gap_38 ly_243 rln_243 fX11_49 rfl rf_243_24 ?_
    refine rw_iconst 41 (v := 4) dX11_gap_41 (by decide) ?_
    refine rw_aload_n 42 dX11_gap_42 0 rfl ?_
    refine rw_getI 43 11 18 kc11 dX11_gap_43 ly_243 rln_243 fX11_236 rfl ?_
    refine rw_imul 46 dX11_gap_46 ?_
    refine rw_iload_n 47 dX11_gap_47 1 rfl ?_
    refine rw_iadd 48 dX11_gap_48 ?_
    refine rn_iald 49 dX11_gap_49 ly_254 rln_254 h (fun h => ?_)
    refine rn_icmp_ge 50 101 dX11_gap_50 (by decide) h (fun _ h => ?_) (fun _ h => ?_)
    · refine rw_pick 101 [2, 3, 4] rfl ?_
      exact hK v3 v4 h
    · refine rw_aload_n 53 dX11_gap_53 0 rfl ?_
      refine rw_iload_n 54 dX11_gap_54 1 rfl ?_
      refine rw_iload 55 dX11_gap_55 6 rfl ?_
      refine rn_cVpi 57 11 [.int v1, .int v6] dX11_gap_57 caX11_whoIsAt lX11_413 inX11_whoIsAt slX11_whoIsAt rfl ly_243 ⟨_, rfl, rfl⟩ rln_243 naX11_whoIsAt (Nat.le_of_ble_eq_true rfl) (Nat.le_of_ble_eq_true rfl) (by decide) (fun _ hq => wX11_whoIsAt v1 v6 μ hq) h (fun q4 h => ?_)
      refine rn_if_lt 60 67 dX11_gap_60 (by decide) h (fun _ h => ?_) (fun _ h => ?_)
      · refine rw_iload 67 dX11_gap_67 5 rfl ?_
        refine rw_iconst 69 (v := 1) dX11_gap_69 (by decide) ?_
        refine rw_iadd 70 dX11_gap_70 ?_
        refine rw_istore 71 [(0, .ref 243), (1, .int v1), (2, .int v2), (3, .int v3), (4, .int v4), (5, .int (v5 + 1)), (6, .int v6)] dX11_gap_71 (by decide) rfl ?_
        refine rw_iload 73 dX11_gap_73 5 rfl ?_
        refine rw_iload 75 dX11_gap_75 4 rfl ?_
        refine rn_icmp_gt 77 83 dX11_gap_77 (by decide) h (fun _ h => ?_) (fun _ h => ?_)
        · refine rw_iload 83 dX11_gap_83 5 rfl ?_
          refine rw_istore 85 [(0, .ref 243), (1, .int v1), (2, .int v2), (3, .int v3), (4, .int (v5 + 1)), (5, .int (v5 + 1)), (6, .int v6)] dX11_gap_85 (by decide) rfl ?_
          refine rw_iload 87 dX11_gap_87 6 rfl ?_
          refine rw_iload 89 dX11_gap_89 5 rfl ?_
          refine rw_isub 91 dX11_gap_91 ?_
          refine rw_iconst 92 (v := 1) dX11_gap_92 (by decide) ?_
          refine rw_iadd 93 dX11_gap_93 ?_
          refine rn_ist_n 94 (fun x5 => [(0, .ref 243), (1, .int v1), (2, .int v2), (3, .int x5), (4, .int (v5 + 1)), (5, .int (v5 + 1)), (6, .int v6)]) dX11_gap_94 (by decide) (fun _ => rfl) h (fun x5 h => ?_)
          refine rw_iinc 95 [(0, .ref 243), (1, .int v1), (2, .int v2), (3, .int x5), (4, .int (v5 + 1)), (5, .int (v5 + 1)), (6, .int (v6 + 1))] dX11_gap_95 6 rfl rfl (by decide) rfl ?_
          refine rw_goto 98 35 dX11_gap_98 (by decide) ?_
          exact ih x5 (v5 + 1) (v5 + 1) (v6 + 1) h
        · refine rw_goto 80 95 dX11_gap_80 (by decide) ?_
          refine rw_iinc 95 [(0, .ref 243), (1, .int v1), (2, .int v2), (3, .int v3), (4, .int v4), (5, .int (v5 + 1)), (6, .int (v6 + 1))] dX11_gap_95 6 rfl rfl (by decide) rfl ?_
          refine rw_goto 98 35 dX11_gap_98 (by decide) ?_
          exact ih v3 v4 (v5 + 1) (v6 + 1) h
      · refine rw_iconst 63 (v := 0) dX11_gap_63 (by decide) ?_
        refine rw_goto 64 71 dX11_gap_64 (by decide) ?_
        refine rw_istore 71 [(0, .ref 243), (1, .int v1), (2, .int v2), (3, .int v3), (4, .int v4), (5, .int 0), (6, .int v6)] dX11_gap_71 (by decide) rfl ?_
        refine rw_iload 73 dX11_gap_73 5 rfl ?_
        refine rw_iload 75 dX11_gap_75 4 rfl ?_
        refine rn_icmp_gt 77 83 dX11_gap_77 (by decide) h (fun _ h => ?_) (fun _ h => ?_)
        · refine rw_iload 83 dX11_gap_83 5 rfl ?_
          refine rw_istore 85 [(0, .ref 243), (1, .int v1), (2, .int v2), (3, .int v3), (4, .int 0), (5, .int 0), (6, .int v6)] dX11_gap_85 (by decide) rfl ?_
          refine rw_iload 87 dX11_gap_87 6 rfl ?_
          refine rw_iload 89 dX11_gap_89 5 rfl ?_
          refine rw_isub 91 dX11_gap_91 ?_
          refine rw_iconst 92 (v := 1) dX11_gap_92 (by decide) ?_
          refine rw_iadd 93 dX11_gap_93 ?_
          refine rn_ist_n 94 (fun x6 => [(0, .ref 243), (1, .int v1), (2, .int v2), (3, .int x6), (4, .int 0), (5, .int 0), (6, .int v6)]) dX11_gap_94 (by decide) (fun _ => rfl) h (fun x6 h => ?_)
          refine rw_iinc 95 [(0, .ref 243), (1, .int v1), (2, .int v2), (3, .int x6), (4, .int 0), (5, .int 0), (6, .int (v6 + 1))] dX11_gap_95 6 rfl rfl (by decide) rfl ?_
          refine rw_goto 98 35 dX11_gap_98 (by decide) ?_
          exact ih x6 0 0 (v6 + 1) h
        · refine rw_goto 80 95 dX11_gap_80 (by decide) ?_
          refine rw_iinc 95 [(0, .ref 243), (1, .int v1), (2, .int v2), (3, .int v3), (4, .int v4), (5, .int 0), (6, .int (v6 + 1))] dX11_gap_95 6 rfl rfl (by decide) rfl ?_
          refine rw_goto 98 35 dX11_gap_98 (by decide) ?_
          exact ih v3 v4 0 (v6 + 1) h
set_option maxRecDepth 100000 in
theorem wX11_gap (a1 : Int32) (a2 : Int32) (μ : Mem) {res : Int32 × Mem} (h : fX11_gap a1 a2 μ = some res) : Ct mX11_gap 3 NF NF [.ref 243, .int a1, .int a2] (μ, Rf0, NF) (QN (some (.int res.1)) res.2 Rf0 NF) := by
  unfold fX11_gap at h
  show RW mX11_gap 3 NF NF 0 [(0, .ref 243), (1, .int a1), (2, .int a2)] [] (μ, Rf0, NF) (QN (some (.int res.1)) res.2 Rf0 NF)
  refine rw_aload_n 0 dX11_gap_0 0 rfl ?_
  refine rw_iload_n 1 dX11_gap_1 1 rfl ?_
  refine rn_cVpb 2 11 [.int a1] dX11_gap_2 caX11_isSunday lX11_404 inX11_isSunday slX11_isSunday rfl ly_243 ⟨_, rfl, rfl⟩ rln_243 naX11_isSunday (Nat.le_of_ble_eq_true rfl) (Nat.le_of_ble_eq_true rfl) (by decide) (fun _ hq => wX11_isSunday a1 μ hq) h (fun q1 h => ?_)
  refine rn_ifb_eq 5 17 dX11_gap_5 (by decide) h (fun _ h => ?_) (fun _ h => ?_)
  · refine rw_iconst 17 (v := -1) dX11_gap_17 (by decide) ?_
    exact rn_iret2 18 dX11_gap_18 rfl h
  · refine rw_iload_n 8 dX11_gap_8 2 rfl ?_
    refine rw_iconst 9 (v := 0) dX11_gap_9 (by decide) ?_
    refine rw_iconst 10 (v := 1) dX11_gap_10 (by decide) ?_
    refine rn_cSpb 11 [.int a2, .int 0, .int 1] dX11_gap_11 caX11_in lX11_316 stX11_in rfl naX11_in (Nat.le_of_ble_eq_true rfl) (Nat.le_of_ble_eq_true rfl) (by decide) (fun _ hq => wX11_in a2 0 1 μ hq) h (fun q2 h => ?_)
    refine rn_ifb_ne 14 19 dX11_gap_14 (by decide) h (fun _ h => ?_) (fun _ h => ?_)
    · refine rw_aload_n 19 dX11_gap_19 0 rfl ?_
      refine rn_cVmv 20 11 [] dX11_gap_20 caX11_copies lX11_326 inX11_copies slX11_copies rfl ly_243 ⟨_, rfl, rfl⟩ rln_243 naX11_copies (Nat.le_of_ble_eq_true rfl) (Nat.le_of_ble_eq_true rfl) (by decide) (fun _ hq => wX11_copies μ hq) h (fun q3 h => ?_)
      refine rw_bipush 23 (v := -2) dX11_gap_23 (by decide) ?_
      refine rw_istore_n 25 [(0, .ref 243), (1, .int a1), (2, .int a2), (3, .int (-2))] dX11_gap_25 (by decide) rfl ?_
      refine rw_iconst 26 (v := 0) dX11_gap_26 (by decide) ?_
      refine rw_istore 27 [(0, .ref 243), (1, .int a1), (2, .int a2), (3, .int (-2)), (4, .int 0)] dX11_gap_27 (by decide) rfl ?_
      refine rw_iconst 29 (v := 0) dX11_gap_29 (by decide) ?_
      refine rw_istore 30 [(0, .ref 243), (1, .int a1), (2, .int a2), (3, .int (-2)), (4, .int 0), (5, .int 0)] dX11_gap_30 (by decide) rfl ?_
      refine rw_iconst 32 (v := 0) dX11_gap_32 (by decide) ?_
      refine rw_istore 33 [(0, .ref 243), (1, .int a1), (2, .int a2), (3, .int (-2)), (4, .int 0), (5, .int 0), (6, .int 0)] dX11_gap_33 (by decide) rfl ?_
      refine wX11_gap_35 a1 a2 q3 _ (fun y7 y8 h => ?_) FU (-2) 0 0 0 h
      refine rw_iload_n 101 dX11_gap_101 0 rfl ?_
      refine rn_if_ne 102 110 dX11_gap_102 (by decide) h (fun _ h => ?_) (fun _ h => ?_)
      · refine rw_iload_n 110 dX11_gap_110 1 rfl ?_
        exact rn_iret2 111 dX11_gap_111 rfl h
      · refine rw_iload 105 dX11_gap_105 2 rfl ?_
        refine rw_goto 107 111 dX11_gap_107 (by decide) ?_
        exact rn_iret2 111 dX11_gap_111 rfl h
    · refine rw_iconst 17 (v := -1) dX11_gap_17 (by decide) ?_
      exact rn_iret2 18 dX11_gap_18 rfl h
def fX11_used_26   (v1 : Int32) (v2 : Int32)  (K : Mem → Option (Int32 × Mem)) : Nat → Int32 → Mem → Option (Int32 × Mem)
  | 0, _, _ => none
  | n + 1, v3, μ =>
    if 100 < v3 then
      K μ
    else
      if inb (21 + v1) 31 then
      if (μ.1 277 (21 + v1).toNatClampNeg) < v2 then
        (fX11_weekGoes μ).bind fun q4 =>
        fX11_used_26 v1 v2 K n (v3 + 1) q4
      else
        some (v3, μ)
      else none
def fX11_used (a1 : Int32) (a2 : Int32) (μ : Mem) : Option (Int32 × Mem) :=
  (fX11_isSunday a1 μ).bind fun q1 =>
  if q1 = true then
    (fX11_in a2 1 99 μ).bind fun q2 =>
    if q2 = true then
      (fX11_copiesStill μ).bind fun q3 =>
      fX11_used_26 a1 a2 (fun μ5 =>
          some ((-2), μ5)
      ) FU 0 q3
    else
      some ((-1), μ)
  else
    some ((-1), μ)
set_option maxRecDepth 100000 in
theorem wX11_used_26   (v1 : Int32) (v2 : Int32)  (K : Mem → Option (Int32 × Mem)) {res : Int32 × Mem} (hK : ∀  (μ : Mem), K μ = some res → RW mX11_used 7 NF NF 57 [] [] (μ, Rf0, NF) (QN (some (.int res.1)) res.2 Rf0 NF)) : ∀ (n9 : Nat) (v3 : Int32) (μ : Mem), fX11_used_26 v1 v2 K n9 v3 μ = some res → RW mX11_used 7 NF NF 26 [(0, .ref 243), (1, .int v1), (2, .int v2), (3, .int v3)] [] (μ, Rf0, NF) (QN (some (.int res.1)) res.2 Rf0 NF) := by
  intro n9
  induction n9 with
  | zero => intro _ _ h; cases h
  | succ n ih =>
    intro v3 μ h
    unfold fX11_used_26 at h
    refine rw_iload_n 26 dX11_used_26 3 rfl ?_
    refine rw_bipush 27 (v := 100) dX11_used_27 (by decide) ?_
    refine rn_icmp_gt 29 57 dX11_used_29 (by decide) h (fun _ h => ?_) (fun _ h => ?_)
    · refine rw_pick 57 [] rfl ?_
      exact hK μ h
    · refine rw_aload_n 32 dX11_used_32 0 rfl ?_
      refine rw_getR 33 11 51 kc11 dX11_used_33 ly_243 rln_243 fX11_119 rfl rf_243_51 ?_
      refine rw_bipush 36 (v := 21) dX11_used_36 (by decide) ?_
      refine rw_iload_n 38 dX11_used_38 1 rfl ?_
      refine rw_iadd 39 dX11_used_39 ?_
      refine rn_iald 40 dX11_used_40 ly_277 rln_277 h (fun h => ?_)
      refine rw_iload_n 41 dX11_used_41 2 rfl ?_
      refine rn_icmp_lt 42 47 dX11_used_42 (by decide) h (fun _ h => ?_) (fun _ h => ?_)
      · refine rw_aload_n 47 dX11_used_47 0 rfl ?_
        refine rn_cVmv 48 11 [] dX11_used_48 caX11_weekGoes lX11_401 inX11_weekGoes slX11_weekGoes rfl ly_243 ⟨_, rfl, rfl⟩ rln_243 naX11_weekGoes (Nat.le_of_ble_eq_true rfl) (Nat.le_of_ble_eq_true rfl) (by decide) (fun _ hq => wX11_weekGoes μ hq) h (fun q4 h => ?_)
        refine rw_iinc 51 [(0, .ref 243), (1, .int v1), (2, .int v2), (3, .int (v3 + 1))] dX11_used_51 3 rfl rfl (by decide) rfl ?_
        refine rw_goto 54 26 dX11_used_54 (by decide) ?_
        exact ih (v3 + 1) q4 h
      · refine rw_iload_n 45 dX11_used_45 3 rfl ?_
        exact rn_iret2 46 dX11_used_46 rfl h
set_option maxRecDepth 100000 in
theorem wX11_used (a1 : Int32) (a2 : Int32) (μ : Mem) {res : Int32 × Mem} (h : fX11_used a1 a2 μ = some res) : Ct mX11_used 7 NF NF [.ref 243, .int a1, .int a2] (μ, Rf0, NF) (QN (some (.int res.1)) res.2 Rf0 NF) := by
  unfold fX11_used at h
  show RW mX11_used 7 NF NF 0 [(0, .ref 243), (1, .int a1), (2, .int a2)] [] (μ, Rf0, NF) (QN (some (.int res.1)) res.2 Rf0 NF)
  refine rw_aload_n 0 dX11_used_0 0 rfl ?_
  refine rw_iload_n 1 dX11_used_1 1 rfl ?_
  refine rn_cVpb 2 11 [.int a1] dX11_used_2 caX11_isSunday lX11_404 inX11_isSunday slX11_isSunday rfl ly_243 ⟨_, rfl, rfl⟩ rln_243 naX11_isSunday (Nat.le_of_ble_eq_true rfl) (Nat.le_of_ble_eq_true rfl) (by decide) (fun _ hq => wX11_isSunday a1 μ hq) h (fun q1 h => ?_)
  refine rn_ifb_eq 5 18 dX11_used_5 (by decide) h (fun _ h => ?_) (fun _ h => ?_)
  · refine rw_iconst 18 (v := -1) dX11_used_18 (by decide) ?_
    exact rn_iret2 19 dX11_used_19 rfl h
  · refine rw_iload_n 8 dX11_used_8 2 rfl ?_
    refine rw_iconst 9 (v := 1) dX11_used_9 (by decide) ?_
    refine rw_bipush 10 (v := 99) dX11_used_10 (by decide) ?_
    refine rn_cSpb 12 [.int a2, .int 1, .int 99] dX11_used_12 caX11_in lX11_316 stX11_in rfl naX11_in (Nat.le_of_ble_eq_true rfl) (Nat.le_of_ble_eq_true rfl) (by decide) (fun _ hq => wX11_in a2 1 99 μ hq) h (fun q2 h => ?_)
    refine rn_ifb_ne 15 20 dX11_used_15 (by decide) h (fun _ h => ?_) (fun _ h => ?_)
    · refine rw_aload_n 20 dX11_used_20 0 rfl ?_
      refine rn_cVmv 21 11 [] dX11_used_21 caX11_copiesStill lX11_473 inX11_copiesStill slX11_copiesStill rfl ly_243 ⟨_, rfl, rfl⟩ rln_243 naX11_copiesStill (Nat.le_of_ble_eq_true rfl) (Nat.le_of_ble_eq_true rfl) (by decide) (fun _ hq => wX11_copiesStill μ hq) h (fun q3 h => ?_)
      refine rw_iconst 24 (v := 0) dX11_used_24 (by decide) ?_
      refine rw_istore_n 25 [(0, .ref 243), (1, .int a1), (2, .int a2), (3, .int 0)] dX11_used_25 (by decide) rfl ?_
      refine wX11_used_26 a1 a2 _ (fun μ5 h => ?_) FU 0 q3 h
      refine rw_bipush 57 (v := -2) dX11_used_57 (by decide) ?_
      exact rn_iret2 59 dX11_used_59 rfl h
    · refine rw_iconst 18 (v := -1) dX11_used_18 (by decide) ?_
      exact rn_iret2 19 dX11_used_19 rfl h
def fX11_isWeary (a1 : Int32) (μ : Mem) : Option (Bool) :=
  if inb (7 + a1) 31 then
  if inb (μ.1 243 18) 2 then
  if (μ.1 277 (7 + a1).toNatClampNeg) < (μ.1 262 (μ.1 243 18).toNatClampNeg) then
    some false
  else
    some true
  else none
  else none
set_option maxRecDepth 100000 in
theorem wX11_isWeary (a1 : Int32) (μ : Mem) {res : Bool} (h : fX11_isWeary a1 μ = some res) : Ct mX11_isWeary 1 NF NF [.ref 243, .int a1] (μ, Rf0, NF) (QN (some (.int (b2i res))) μ Rf0 NF) := by
  unfold fX11_isWeary at h
  show RW mX11_isWeary 1 NF NF 0 [(0, .ref 243), (1, .int a1)] [] (μ, Rf0, NF) (QN (some (.int (b2i res))) μ Rf0 NF)
  refine rw_aload_n 0 dX11_isWeary_0 0 rfl ?_
  refine rw_getR 1 11 51 kc11 dX11_isWeary_1 ly_243 rln_243 fX11_119 rfl rf_243_51 ?_
  refine rw_bipush 4 (v := 7) dX11_isWeary_4 (by decide) ?_
  refine rw_iload_n 6 dX11_isWeary_6 1 rfl ?_
  refine rw_iadd 7 dX11_isWeary_7 ?_
  refine rn_iald 8 dX11_isWeary_8 ly_277 rln_277 h (fun h => ?_)
  refine rw_aload_n 9 dX11_isWeary_9 0 rfl ?_
  refine rw_getR 10 11 32 kc11 dX11_isWeary_10 ly_243 rln_243 fX11_73 rfl rf_243_32 ?_
  refine rw_aload_n 13 dX11_isWeary_13 0 rfl ?_
  refine rw_getI 14 11 18 kc11 dX11_isWeary_14 ly_243 rln_243 fX11_236 rfl ?_
  refine rn_iald 17 dX11_isWeary_17 ly_262 rln_262 h (fun h => ?_)
  refine rn_icmp_lt 18 25 dX11_isWeary_18 (by decide) h (fun _ h => ?_) (fun _ h => ?_)
  · refine rw_iconst 25 (v := 0) dX11_isWeary_25 (by decide) ?_
    exact rn_zret 26 (v := false) dX11_isWeary_26 rfl h
  · refine rw_iconst 21 (v := 1) dX11_isWeary_21 (by decide) ?_
    refine rw_goto 22 26 dX11_isWeary_22 (by decide) ?_
    exact rn_zret 26 (v := true) dX11_isWeary_26 rfl h
def fX11_first_25   (v1 : Int32) (v2 : Int32) (μ : Mem) (K : Unit → Option (Int32 × Mem)) : Nat → Int32 → Option (Int32 × Mem)
  | 0, _ => none
  | n + 1, v3 =>
    if inb (μ.1 243 18) 2 then
    if v3 < (μ.1 256 (μ.1 243 18).toNatClampNeg) then
      if inb (14 + v3) 31 then
      if (μ.1 277 (14 + v3).toNatClampNeg) = 0 then
        (fX11_isWeary v3 μ).bind fun q3 =>
        if q3 = true then
          if v1 = 0 then
            some (v2, μ)
          else
            some (v3, μ)
        else
          fX11_first_25 v1 v2 μ K n (v3 + 1)
      else
        fX11_first_25 v1 v2 μ K n (v3 + 1)
      else none
    else
      K ()
    else none
def fX11_first_17   (v1 : Int32)  (K : Mem → Option (Int32 × Mem)) : Nat → Int32 → Mem → Option (Int32 × Mem)
  | 0, _, _ => none
  | n + 1, v2, μ =>
    if 100 < v2 then
      K μ
    else
      fX11_first_25 v1 v2 μ (fun _ =>
          (fX11_weekGoes μ).bind fun q4 =>
          fX11_first_17 v1 K n (v2 + 1) q4
      ) FU 0
def fX11_first (a1 : Int32) (μ : Mem) : Option (Int32 × Mem) :=
  (fX11_in a1 0 1 μ).bind fun q1 =>
  if q1 = true then
    (fX11_copiesStill μ).bind fun q2 =>
    fX11_first_17 a1 (fun μ5 =>
        some ((-2), μ5)
    ) FU 0 q2
  else
    some ((-1), μ)
set_option maxRecDepth 100000 in
theorem wX11_first_25   (v1 : Int32) (v2 : Int32) (μ : Mem) (K : Unit → Option (Int32 × Mem)) {res : Int32 × Mem} (hK : ∀ (_ : Unit), K () = some res → RW mX11_first 7 NF NF 74 [(0, .ref 243), (1, .int v1), (2, .int v2)] [] (μ, Rf0, NF) (QN (some (.int res.1)) res.2 Rf0 NF)) : ∀ (n9 : Nat) (v3 : Int32), fX11_first_25 v1 v2 μ K n9 v3 = some res → RW mX11_first 7 NF NF 25 [(0, .ref 243), (1, .int v1), (2, .int v2), (3, .int v3)] [] (μ, Rf0, NF) (QN (some (.int res.1)) res.2 Rf0 NF) := by
  intro n9
  induction n9 with
  | zero => intro _ h; cases h
  | succ n ih =>
    intro v3 h
    unfold fX11_first_25 at h
    refine rw_iload_n 25 dX11_first_25 3 rfl ?_
    refine rw_aload_n 26 dX11_first_26 0 rfl ?_
    refine rw_getR 27 11 26 kc11 dX11_first_27 ly_243 rln_243 fX11_55 rfl rf_243_26 ?_
    refine rw_aload_n 30 dX11_first_30 0 rfl ?_
    refine rw_getI 31 11 18 kc11 dX11_first_31 ly_243 rln_243 fX11_236 rfl ?_
    refine rn_iald 34 dX11_first_34 ly_256 rln_256 h (fun h => ?_)
    refine rn_icmp_ge 35 74 dX11_first_35 (by decide) h (fun _ h => ?_) (fun _ h => ?_)
    · refine rw_pick 74 [0, 1, 2] rfl ?_
      exact hK () h
    · refine rw_aload_n 38 dX11_first_38 0 rfl ?_
      refine rw_getR 39 11 51 kc11 dX11_first_39 ly_243 rln_243 fX11_119 rfl rf_243_51 ?_
      refine rw_bipush 42 (v := 14) dX11_first_42 (by decide) ?_
      refine rw_iload_n 44 dX11_first_44 3 rfl ?_
      refine rw_iadd 45 dX11_first_45 ?_
      refine rn_iald 46 dX11_first_46 ly_277 rln_277 h (fun h => ?_)
      refine rn_if_ne 47 68 dX11_first_47 (by decide) h (fun _ h => ?_) (fun _ h => ?_)
      · refine rw_iinc 68 [(0, .ref 243), (1, .int v1), (2, .int v2), (3, .int (v3 + 1))] dX11_first_68 3 rfl rfl (by decide) rfl ?_
        refine rw_goto 71 25 dX11_first_71 (by decide) ?_
        exact ih (v3 + 1) h
      · refine rw_aload_n 50 dX11_first_50 0 rfl ?_
        refine rw_iload_n 51 dX11_first_51 3 rfl ?_
        refine rn_cVpb 52 11 [.int v3] dX11_first_52 caX11_isWeary lX11_476 inX11_isWeary slX11_isWeary rfl ly_243 ⟨_, rfl, rfl⟩ rln_243 naX11_isWeary (Nat.le_of_ble_eq_true rfl) (Nat.le_of_ble_eq_true rfl) (by decide) (fun _ hq => wX11_isWeary v3 μ hq) h (fun q3 h => ?_)
        refine rn_ifb_eq 55 68 dX11_first_55 (by decide) h (fun _ h => ?_) (fun _ h => ?_)
        · refine rw_iinc 68 [(0, .ref 243), (1, .int v1), (2, .int v2), (3, .int (v3 + 1))] dX11_first_68 3 rfl rfl (by decide) rfl ?_
          refine rw_goto 71 25 dX11_first_71 (by decide) ?_
          exact ih (v3 + 1) h
        · refine rw_iload_n 58 dX11_first_58 1 rfl ?_
          refine rn_if_ne 59 66 dX11_first_59 (by decide) h (fun _ h => ?_) (fun _ h => ?_)
          · refine rw_iload_n 66 dX11_first_66 3 rfl ?_
            exact rn_iret2 67 dX11_first_67 rfl h
          · refine rw_iload_n 62 dX11_first_62 2 rfl ?_
            refine rw_goto 63 67 dX11_first_63 (by decide) ?_
            exact rn_iret2 67 dX11_first_67 rfl h
set_option maxRecDepth 100000 in
theorem wX11_first_17   (v1 : Int32)  (K : Mem → Option (Int32 × Mem)) {res : Int32 × Mem} (hK : ∀  (μ : Mem), K μ = some res → RW mX11_first 7 NF NF 84 [] [] (μ, Rf0, NF) (QN (some (.int res.1)) res.2 Rf0 NF)) : ∀ (n9 : Nat) (v2 : Int32) (μ : Mem), fX11_first_17 v1 K n9 v2 μ = some res → RW mX11_first 7 NF NF 17 [(0, .ref 243), (1, .int v1), (2, .int v2)] [] (μ, Rf0, NF) (QN (some (.int res.1)) res.2 Rf0 NF) := by
  intro n9
  induction n9 with
  | zero => intro _ _ h; cases h
  | succ n ih =>
    intro v2 μ h
    unfold fX11_first_17 at h
    refine rw_iload_n 17 dX11_first_17 2 rfl ?_
    refine rw_bipush 18 (v := 100) dX11_first_18 (by decide) ?_
    refine rn_icmp_gt 20 84 dX11_first_20 (by decide) h (fun _ h => ?_) (fun _ h => ?_)
    · refine rw_pick 84 [] rfl ?_
      exact hK μ h
    · refine rw_iconst 23 (v := 0) dX11_first_23 (by decide) ?_
      refine rw_istore_n 24 [(0, .ref 243), (1, .int v1), (2, .int v2), (3, .int 0)] dX11_first_24 (by decide) rfl ?_
      refine wX11_first_25 v1 v2 μ _ (fun _ h => ?_) FU 0 h
      refine rw_aload_n 74 dX11_first_74 0 rfl ?_
      refine rn_cVmv 75 11 [] dX11_first_75 caX11_weekGoes lX11_401 inX11_weekGoes slX11_weekGoes rfl ly_243 ⟨_, rfl, rfl⟩ rln_243 naX11_weekGoes (Nat.le_of_ble_eq_true rfl) (Nat.le_of_ble_eq_true rfl) (by decide) (fun _ hq => wX11_weekGoes μ hq) h (fun q4 h => ?_)
      refine rw_iinc 78 [(0, .ref 243), (1, .int v1), (2, .int (v2 + 1))] dX11_first_78 2 rfl rfl (by decide) rfl ?_
      refine rw_goto 81 17 dX11_first_81 (by decide) ?_
      exact ih (v2 + 1) q4 h
set_option maxRecDepth 100000 in
theorem wX11_first (a1 : Int32) (μ : Mem) {res : Int32 × Mem} (h : fX11_first a1 μ = some res) : Ct mX11_first 7 NF NF [.ref 243, .int a1] (μ, Rf0, NF) (QN (some (.int res.1)) res.2 Rf0 NF) := by
  unfold fX11_first at h
  show RW mX11_first 7 NF NF 0 [(0, .ref 243), (1, .int a1)] [] (μ, Rf0, NF) (QN (some (.int res.1)) res.2 Rf0 NF)
  refine rw_iload_n 0 dX11_first_0 1 rfl ?_
  refine rw_iconst 1 (v := 0) dX11_first_1 (by decide) ?_
  refine rw_iconst 2 (v := 1) dX11_first_2 (by decide) ?_
  refine rn_cSpb 3 [.int a1, .int 0, .int 1] dX11_first_3 caX11_in lX11_316 stX11_in rfl naX11_in (Nat.le_of_ble_eq_true rfl) (Nat.le_of_ble_eq_true rfl) (by decide) (fun _ hq => wX11_in a1 0 1 μ hq) h (fun q1 h => ?_)
  refine rn_ifb_ne 6 11 dX11_first_6 (by decide) h (fun _ h => ?_) (fun _ h => ?_)
  · refine rw_aload_n 11 dX11_first_11 0 rfl ?_
    refine rn_cVmv 12 11 [] dX11_first_12 caX11_copiesStill lX11_473 inX11_copiesStill slX11_copiesStill rfl ly_243 ⟨_, rfl, rfl⟩ rln_243 naX11_copiesStill (Nat.le_of_ble_eq_true rfl) (Nat.le_of_ble_eq_true rfl) (by decide) (fun _ hq => wX11_copiesStill μ hq) h (fun q2 h => ?_)
    refine rw_iconst 15 (v := 0) dX11_first_15 (by decide) ?_
    refine rw_istore_n 16 [(0, .ref 243), (1, .int a1), (2, .int 0)] dX11_first_16 (by decide) rfl ?_
    refine wX11_first_17 a1 _ (fun μ5 h => ?_) FU 0 q2 h
    refine rw_bipush 84 (v := -2) dX11_first_84 (by decide) ?_
    exact rn_iret2 86 dX11_first_86 rfl h
  · refine rw_iconst 9 (v := -1) dX11_first_9 (by decide) ?_
    exact rn_iret2 10 dX11_first_10 rfl h
def fX11_weary_16   (v1 : Int32)  (K : Mem → Option (Int32 × Mem)) : Nat → Int32 → Mem → Option (Int32 × Mem)
  | 0, _, _ => none
  | n + 1, v2, μ =>
    if 100 < v2 then
      K μ
    else
      (fX11_isWeary v1 μ).bind fun q3 =>
      if q3 = true then
        some (v2, μ)
      else
        (fX11_weekGoes μ).bind fun q4 =>
        fX11_weary_16 v1 K n (v2 + 1) q4
def fX11_weary (a1 : Int32) (μ : Mem) : Option (Int32 × Mem) :=
  (fX11_isGuest a1 μ).bind fun q1 =>
  if q1 = true then
    (fX11_copiesStill μ).bind fun q2 =>
    fX11_weary_16 a1 (fun μ5 =>
        some ((-2), μ5)
    ) FU 0 q2
  else
    some ((-1), μ)
set_option maxRecDepth 100000 in
theorem wX11_weary_16   (v1 : Int32)  (K : Mem → Option (Int32 × Mem)) {res : Int32 × Mem} (hK : ∀  (μ : Mem), K μ = some res → RW mX11_weary 7 NF NF 42 [] [] (μ, Rf0, NF) (QN (some (.int res.1)) res.2 Rf0 NF)) : ∀ (n9 : Nat) (v2 : Int32) (μ : Mem), fX11_weary_16 v1 K n9 v2 μ = some res → RW mX11_weary 7 NF NF 16 [(0, .ref 243), (1, .int v1), (2, .int v2)] [] (μ, Rf0, NF) (QN (some (.int res.1)) res.2 Rf0 NF) := by
  intro n9
  induction n9 with
  | zero => intro _ _ h; cases h
  | succ n ih =>
    intro v2 μ h
    unfold fX11_weary_16 at h
    refine rw_iload_n 16 dX11_weary_16 2 rfl ?_
    refine rw_bipush 17 (v := 100) dX11_weary_17 (by decide) ?_
    refine rn_icmp_gt 19 42 dX11_weary_19 (by decide) h (fun _ h => ?_) (fun _ h => ?_)
    · refine rw_pick 42 [] rfl ?_
      exact hK μ h
    · refine rw_aload_n 22 dX11_weary_22 0 rfl ?_
      refine rw_iload_n 23 dX11_weary_23 1 rfl ?_
      refine rn_cVpb 24 11 [.int v1] dX11_weary_24 caX11_isWeary lX11_476 inX11_isWeary slX11_isWeary rfl ly_243 ⟨_, rfl, rfl⟩ rln_243 naX11_isWeary (Nat.le_of_ble_eq_true rfl) (Nat.le_of_ble_eq_true rfl) (by decide) (fun _ hq => wX11_isWeary v1 μ hq) h (fun q3 h => ?_)
      refine rn_ifb_eq 27 32 dX11_weary_27 (by decide) h (fun _ h => ?_) (fun _ h => ?_)
      · refine rw_aload_n 32 dX11_weary_32 0 rfl ?_
        refine rn_cVmv 33 11 [] dX11_weary_33 caX11_weekGoes lX11_401 inX11_weekGoes slX11_weekGoes rfl ly_243 ⟨_, rfl, rfl⟩ rln_243 naX11_weekGoes (Nat.le_of_ble_eq_true rfl) (Nat.le_of_ble_eq_true rfl) (by decide) (fun _ hq => wX11_weekGoes μ hq) h (fun q4 h => ?_)
        refine rw_iinc 36 [(0, .ref 243), (1, .int v1), (2, .int (v2 + 1))] dX11_weary_36 2 rfl rfl (by decide) rfl ?_
        refine rw_goto 39 16 dX11_weary_39 (by decide) ?_
        exact ih (v2 + 1) q4 h
      · refine rw_iload_n 30 dX11_weary_30 2 rfl ?_
        exact rn_iret2 31 dX11_weary_31 rfl h
set_option maxRecDepth 100000 in
theorem wX11_weary (a1 : Int32) (μ : Mem) {res : Int32 × Mem} (h : fX11_weary a1 μ = some res) : Ct mX11_weary 7 NF NF [.ref 243, .int a1] (μ, Rf0, NF) (QN (some (.int res.1)) res.2 Rf0 NF) := by
  unfold fX11_weary at h
  show RW mX11_weary 7 NF NF 0 [(0, .ref 243), (1, .int a1)] [] (μ, Rf0, NF) (QN (some (.int res.1)) res.2 Rf0 NF)
  refine rw_aload_n 0 dX11_weary_0 0 rfl ?_
  refine rw_iload_n 1 dX11_weary_1 1 rfl ?_
  refine rn_cVpb 2 11 [.int a1] dX11_weary_2 caX11_isGuest lX11_410 inX11_isGuest slX11_isGuest rfl ly_243 ⟨_, rfl, rfl⟩ rln_243 naX11_isGuest (Nat.le_of_ble_eq_true rfl) (Nat.le_of_ble_eq_true rfl) (by decide) (fun _ hq => wX11_isGuest a1 μ hq) h (fun q1 h => ?_)
  refine rn_ifb_ne 5 10 dX11_weary_5 (by decide) h (fun _ h => ?_) (fun _ h => ?_)
  · refine rw_aload_n 10 dX11_weary_10 0 rfl ?_
    refine rn_cVmv 11 11 [] dX11_weary_11 caX11_copiesStill lX11_473 inX11_copiesStill slX11_copiesStill rfl ly_243 ⟨_, rfl, rfl⟩ rln_243 naX11_copiesStill (Nat.le_of_ble_eq_true rfl) (Nat.le_of_ble_eq_true rfl) (by decide) (fun _ hq => wX11_copiesStill μ hq) h (fun q2 h => ?_)
    refine rw_iconst 14 (v := 0) dX11_weary_14 (by decide) ?_
    refine rw_istore_n 15 [(0, .ref 243), (1, .int a1), (2, .int 0)] dX11_weary_15 (by decide) rfl ?_
    refine wX11_weary_16 a1 _ (fun μ5 h => ?_) FU 0 q2 h
    refine rw_bipush 42 (v := -2) dX11_weary_42 (by decide) ?_
    exact rn_iret2 44 dX11_weary_44 rfl h
  · refine rw_iconst 8 (v := -1) dX11_weary_8 (by decide) ?_
    exact rn_iret2 9 dX11_weary_9 rfl h
def fX11_isForSale (a1 : Int32) (μ : Mem) : Option (Bool) :=
  (fX11_isSunday a1 μ).bind fun q1 =>
  if q1 = true then
    if inb (25 + a1) 31 then
    if (μ.1 276 (25 + a1).toNatClampNeg) = 0 then
      some true
    else
      some false
    else none
  else
    some false
set_option maxRecDepth 100000 in
theorem wX11_isForSale (a1 : Int32) (μ : Mem) {res : Bool} (h : fX11_isForSale a1 μ = some res) : Ct mX11_isForSale 3 NF NF [.ref 243, .int a1] (μ, Rf0, NF) (QN (some (.int (b2i res))) μ Rf0 NF) := by
  unfold fX11_isForSale at h
  show RW mX11_isForSale 3 NF NF 0 [(0, .ref 243), (1, .int a1)] [] (μ, Rf0, NF) (QN (some (.int (b2i res))) μ Rf0 NF)
  refine rw_aload_n 0 dX11_isForSale_0 0 rfl ?_
  refine rw_iload_n 1 dX11_isForSale_1 1 rfl ?_
  refine rn_cVpb 2 11 [.int a1] dX11_isForSale_2 caX11_isSunday lX11_404 inX11_isSunday slX11_isSunday rfl ly_243 ⟨_, rfl, rfl⟩ rln_243 naX11_isSunday (Nat.le_of_ble_eq_true rfl) (Nat.le_of_ble_eq_true rfl) (by decide) (fun _ hq => wX11_isSunday a1 μ hq) h (fun q1 h => ?_)
  refine rn_ifb_eq 5 24 dX11_isForSale_5 (by decide) h (fun _ h => ?_) (fun _ h => ?_)
  · refine rw_iconst 24 (v := 0) dX11_isForSale_24 (by decide) ?_
    exact rn_zret 25 (v := false) dX11_isForSale_25 rfl h
  · refine rw_aload_n 8 dX11_isForSale_8 0 rfl ?_
    refine rw_getR 9 11 50 kc11 dX11_isForSale_9 ly_243 rln_243 fX11_116 rfl rf_243_50 ?_
    refine rw_bipush 12 (v := 25) dX11_isForSale_12 (by decide) ?_
    refine rw_iload_n 14 dX11_isForSale_14 1 rfl ?_
    refine rw_iadd 15 dX11_isForSale_15 ?_
    refine rn_iald 16 dX11_isForSale_16 ly_276 rln_276 h (fun h => ?_)
    refine rn_if_ne 17 24 dX11_isForSale_17 (by decide) h (fun _ h => ?_) (fun _ h => ?_)
    · refine rw_iconst 24 (v := 0) dX11_isForSale_24 (by decide) ?_
      exact rn_zret 25 (v := false) dX11_isForSale_25 rfl h
    · refine rw_iconst 20 (v := 1) dX11_isForSale_20 (by decide) ?_
      refine rw_goto 21 25 dX11_isForSale_21 (by decide) ?_
      exact rn_zret 25 (v := true) dX11_isForSale_25 rfl h
def fX11_price (a1 : Int32) (a2 : Int32) (μ : Mem) : Option (Int32 × Mem) :=
  (fX11_isForSale a1 μ).bind fun q1 =>
  if q1 = true then
    (fX11_isLong a2 μ).bind fun q2 =>
    if q2 = true then
      (fX11_copiesStill μ).bind fun q3 =>
      (fX11_goes a2 q3).bind fun q4 =>
      (fX11_sellsOf a1 q4).bind fun q5 =>
      some (q5.1, q5.2)
    else
      some ((-1), μ)
  else
    some ((-1), μ)
set_option maxRecDepth 100000 in
theorem wX11_price (a1 : Int32) (a2 : Int32) (μ : Mem) {res : Int32 × Mem} (h : fX11_price a1 a2 μ = some res) : Ct mX11_price 8 NF NF [.ref 243, .int a1, .int a2] (μ, Rf0, NF) (QN (some (.int res.1)) res.2 Rf0 NF) := by
  unfold fX11_price at h
  show RW mX11_price 8 NF NF 0 [(0, .ref 243), (1, .int a1), (2, .int a2)] [] (μ, Rf0, NF) (QN (some (.int res.1)) res.2 Rf0 NF)
  refine rw_aload_n 0 dX11_price_0 0 rfl ?_
  refine rw_iload_n 1 dX11_price_1 1 rfl ?_
  refine rn_cVpb 2 11 [.int a1] dX11_price_2 caX11_isForSale lX11_479 inX11_isForSale slX11_isForSale rfl ly_243 ⟨_, rfl, rfl⟩ rln_243 naX11_isForSale (Nat.le_of_ble_eq_true rfl) (Nat.le_of_ble_eq_true rfl) (by decide) (fun _ hq => wX11_isForSale a1 μ hq) h (fun q1 h => ?_)
  refine rn_ifb_eq 5 15 dX11_price_5 (by decide) h (fun _ h => ?_) (fun _ h => ?_)
  · refine rw_iconst 15 (v := -1) dX11_price_15 (by decide) ?_
    exact rn_iret2 16 dX11_price_16 rfl h
  · refine rw_iload_n 8 dX11_price_8 2 rfl ?_
    refine rn_cSpb 9 [.int a2] dX11_price_9 caX11_isLong lX11_428 stX11_isLong rfl naX11_isLong (Nat.le_of_ble_eq_true rfl) (Nat.le_of_ble_eq_true rfl) (by decide) (fun _ hq => wX11_isLong a2 μ hq) h (fun q2 h => ?_)
    refine rn_ifb_ne 12 17 dX11_price_12 (by decide) h (fun _ h => ?_) (fun _ h => ?_)
    · refine rw_aload_n 17 dX11_price_17 0 rfl ?_
      refine rn_cVmv 18 11 [] dX11_price_18 caX11_copiesStill lX11_473 inX11_copiesStill slX11_copiesStill rfl ly_243 ⟨_, rfl, rfl⟩ rln_243 naX11_copiesStill (Nat.le_of_ble_eq_true rfl) (Nat.le_of_ble_eq_true rfl) (by decide) (fun _ hq => wX11_copiesStill μ hq) h (fun q3 h => ?_)
      refine rw_aload_n 21 dX11_price_21 0 rfl ?_
      refine rw_iload_n 22 dX11_price_22 2 rfl ?_
      refine rn_cVmv 23 11 [.int a2] dX11_price_23 caX11_goes lX11_431 inX11_goes slX11_goes rfl ly_243 ⟨_, rfl, rfl⟩ rln_243 naX11_goes (Nat.le_of_ble_eq_true rfl) (Nat.le_of_ble_eq_true rfl) (by decide) (fun _ hq => wX11_goes a2 q3 hq) h (fun q4 h => ?_)
      refine rw_aload_n 26 dX11_price_26 0 rfl ?_
      refine rw_iload_n 27 dX11_price_27 1 rfl ?_
      refine rn_cVmi 28 11 [.int a1] dX11_price_28 caX11_sellsOf lX11_407 inX11_sellsOf slX11_sellsOf rfl ly_243 ⟨_, rfl, rfl⟩ rln_243 naX11_sellsOf (Nat.le_of_ble_eq_true rfl) (Nat.le_of_ble_eq_true rfl) (by decide) (fun _ hq => wX11_sellsOf a1 q4 hq) h (fun q5 h => ?_)
      exact rn_iret2 31 dX11_price_31 rfl h
    · refine rw_iconst 15 (v := -1) dX11_price_15 (by decide) ?_
      exact rn_iret2 16 dX11_price_16 rfl h
def fX11_best_39   (v1 : Int32) (v2 : Int32) (v3 : Int32)  (K : Int32 → Int32 → Mem → Option (Int32 × Mem)) : Nat → Int32 → Int32 → Int32 → Mem → Option (Int32 × Mem)
  | 0, _, _, _, _ => none
  | n + 1, v4, v5, v6, μ =>
    if v2 < v6 then
      K v4 v5 μ
    else
      (fX11_sellsOf v1 μ).bind fun q5 =>
      if v5 < q5.1 then
        (fX11_sellsOf v1 q5.2).bind fun q7 =>
        (fX11_weekGoes q7.2).bind fun q8 =>
        fX11_best_39 v1 v2 v3 K n v6 q7.1 (v6 + 1) q8
      else
        (fX11_weekGoes q5.2).bind fun q6 =>
        fX11_best_39 v1 v2 v3 K n v4 v5 (v6 + 1) q6
def fX11_best (a1 : Int32) (a2 : Int32) (a3 : Int32) (μ : Mem) : Option (Int32 × Mem) :=
  (fX11_isForSale a1 μ).bind fun q1 =>
  if q1 = true then
    (fX11_isLong a2 μ).bind fun q2 =>
    if q2 = true then
      (fX11_in a3 0 1 μ).bind fun q3 =>
      if q3 = true then
        (fX11_copiesStill μ).bind fun q4 =>
        fX11_best_39 a1 a2 a3 (fun y9 y10 μ11 =>
            if a3 = 0 then
              some (y9, μ11)
            else
              some (y10, μ11)
        ) FU (-1) (-1) 0 q4
      else
        some ((-1), μ)
    else
      some ((-1), μ)
  else
    some ((-1), μ)
set_option maxRecDepth 100000 in
theorem wX11_best_39   (v1 : Int32) (v2 : Int32) (v3 : Int32)  (K : Int32 → Int32 → Mem → Option (Int32 × Mem)) {res : Int32 × Mem} (hK : ∀ (v4 : Int32) (v5 : Int32) (μ : Mem), K v4 v5 μ = some res → RW mX11_best 7 NF NF 76 [(3, .int v3), (4, .int v4), (5, .int v5)] [] (μ, Rf0, NF) (QN (some (.int res.1)) res.2 Rf0 NF)) : ∀ (n9 : Nat) (v4 : Int32) (v5 : Int32) (v6 : Int32) (μ : Mem), fX11_best_39 v1 v2 v3 K n9 v4 v5 v6 μ = some res → RW mX11_best 7 NF NF 39 [(0, .ref 243), (1, .int v1), (2, .int v2), (3, .int v3), (4, .int v4), (5, .int v5), (6, .int v6)] [] (μ, Rf0, NF) (QN (some (.int res.1)) res.2 Rf0 NF) := by
  intro n9
  induction n9 with
  | zero => intro _ _ _ _ h; cases h
  | succ n ih =>
    intro v4 v5 v6 μ h
    unfold fX11_best_39 at h
    refine rw_iload 39 dX11_best_39 6 rfl ?_
    refine rw_iload_n 41 dX11_best_41 2 rfl ?_
    refine rn_icmp_gt 42 76 dX11_best_42 (by decide) h (fun _ h => ?_) (fun _ h => ?_)
    · refine rw_pick 76 [3, 4, 5] rfl ?_
      exact hK v4 v5 μ h
    · refine rw_aload_n 45 dX11_best_45 0 rfl ?_
      refine rw_iload_n 46 dX11_best_46 1 rfl ?_
      refine rn_cVmi 47 11 [.int v1] dX11_best_47 caX11_sellsOf lX11_407 inX11_sellsOf slX11_sellsOf rfl ly_243 ⟨_, rfl, rfl⟩ rln_243 naX11_sellsOf (Nat.le_of_ble_eq_true rfl) (Nat.le_of_ble_eq_true rfl) (by decide) (fun _ hq => wX11_sellsOf v1 μ hq) h (fun q5 h => ?_)
      refine rw_iload 50 dX11_best_50 5 rfl ?_
      refine rn_icmp_le 52 66 dX11_best_52 (by decide) h (fun _ h => ?_) (fun _ h => ?_)
      · refine rw_aload_n 66 dX11_best_66 0 rfl ?_
        refine rn_cVmv 67 11 [] dX11_best_67 caX11_weekGoes lX11_401 inX11_weekGoes slX11_weekGoes rfl ly_243 ⟨_, rfl, rfl⟩ rln_243 naX11_weekGoes (Nat.le_of_ble_eq_true rfl) (Nat.le_of_ble_eq_true rfl) (by decide) (fun _ hq => wX11_weekGoes q5.2 hq) h (fun q6 h => ?_)
        refine rw_iinc 70 [(0, .ref 243), (1, .int v1), (2, .int v2), (3, .int v3), (4, .int v4), (5, .int v5), (6, .int (v6 + 1))] dX11_best_70 6 rfl rfl (by decide) rfl ?_
        refine rw_goto 73 39 dX11_best_73 (by decide) ?_
        exact ih v4 v5 (v6 + 1) q6 h
      · refine rw_iload 55 dX11_best_55 6 rfl ?_
        refine rw_istore 57 [(0, .ref 243), (1, .int v1), (2, .int v2), (3, .int v3), (4, .int v6), (5, .int v5), (6, .int v6)] dX11_best_57 (by decide) rfl ?_
        refine rw_aload_n 59 dX11_best_59 0 rfl ?_
        refine rw_iload_n 60 dX11_best_60 1 rfl ?_
        refine rn_cVmi 61 11 [.int v1] dX11_best_61 caX11_sellsOf lX11_407 inX11_sellsOf slX11_sellsOf rfl ly_243 ⟨_, rfl, rfl⟩ rln_243 naX11_sellsOf (Nat.le_of_ble_eq_true rfl) (Nat.le_of_ble_eq_true rfl) (by decide) (fun _ hq => wX11_sellsOf v1 q5.2 hq) h (fun q7 h => ?_)
        refine rw_istore 64 [(0, .ref 243), (1, .int v1), (2, .int v2), (3, .int v3), (4, .int v6), (5, .int q7.1), (6, .int v6)] dX11_best_64 (by decide) rfl ?_
        refine rw_aload_n 66 dX11_best_66 0 rfl ?_
        refine rn_cVmv 67 11 [] dX11_best_67 caX11_weekGoes lX11_401 inX11_weekGoes slX11_weekGoes rfl ly_243 ⟨_, rfl, rfl⟩ rln_243 naX11_weekGoes (Nat.le_of_ble_eq_true rfl) (Nat.le_of_ble_eq_true rfl) (by decide) (fun _ hq => wX11_weekGoes q7.2 hq) h (fun q8 h => ?_)
        refine rw_iinc 70 [(0, .ref 243), (1, .int v1), (2, .int v2), (3, .int v3), (4, .int v6), (5, .int q7.1), (6, .int (v6 + 1))] dX11_best_70 6 rfl rfl (by decide) rfl ?_
        refine rw_goto 73 39 dX11_best_73 (by decide) ?_
        exact ih v6 q7.1 (v6 + 1) q8 h
set_option maxRecDepth 100000 in
theorem wX11_best (a1 : Int32) (a2 : Int32) (a3 : Int32) (μ : Mem) {res : Int32 × Mem} (h : fX11_best a1 a2 a3 μ = some res) : Ct mX11_best 7 NF NF [.ref 243, .int a1, .int a2, .int a3] (μ, Rf0, NF) (QN (some (.int res.1)) res.2 Rf0 NF) := by
  unfold fX11_best at h
  show RW mX11_best 7 NF NF 0 [(0, .ref 243), (1, .int a1), (2, .int a2), (3, .int a3)] [] (μ, Rf0, NF) (QN (some (.int res.1)) res.2 Rf0 NF)
  refine rw_aload_n 0 dX11_best_0 0 rfl ?_
  refine rw_iload_n 1 dX11_best_1 1 rfl ?_
  refine rn_cVpb 2 11 [.int a1] dX11_best_2 caX11_isForSale lX11_479 inX11_isForSale slX11_isForSale rfl ly_243 ⟨_, rfl, rfl⟩ rln_243 naX11_isForSale (Nat.le_of_ble_eq_true rfl) (Nat.le_of_ble_eq_true rfl) (by decide) (fun _ hq => wX11_isForSale a1 μ hq) h (fun q1 h => ?_)
  refine rn_ifb_eq 5 24 dX11_best_5 (by decide) h (fun _ h => ?_) (fun _ h => ?_)
  · refine rw_iconst 24 (v := -1) dX11_best_24 (by decide) ?_
    exact rn_iret2 25 dX11_best_25 rfl h
  · refine rw_iload_n 8 dX11_best_8 2 rfl ?_
    refine rn_cSpb 9 [.int a2] dX11_best_9 caX11_isLong lX11_428 stX11_isLong rfl naX11_isLong (Nat.le_of_ble_eq_true rfl) (Nat.le_of_ble_eq_true rfl) (by decide) (fun _ hq => wX11_isLong a2 μ hq) h (fun q2 h => ?_)
    refine rn_ifb_eq 12 24 dX11_best_12 (by decide) h (fun _ h => ?_) (fun _ h => ?_)
    · refine rw_iconst 24 (v := -1) dX11_best_24 (by decide) ?_
      exact rn_iret2 25 dX11_best_25 rfl h
    · refine rw_iload_n 15 dX11_best_15 3 rfl ?_
      refine rw_iconst 16 (v := 0) dX11_best_16 (by decide) ?_
      refine rw_iconst 17 (v := 1) dX11_best_17 (by decide) ?_
      refine rn_cSpb 18 [.int a3, .int 0, .int 1] dX11_best_18 caX11_in lX11_316 stX11_in rfl naX11_in (Nat.le_of_ble_eq_true rfl) (Nat.le_of_ble_eq_true rfl) (by decide) (fun _ hq => wX11_in a3 0 1 μ hq) h (fun q3 h => ?_)
      refine rn_ifb_ne 21 26 dX11_best_21 (by decide) h (fun _ h => ?_) (fun _ h => ?_)
      · refine rw_aload_n 26 dX11_best_26 0 rfl ?_
        refine rn_cVmv 27 11 [] dX11_best_27 caX11_copiesStill lX11_473 inX11_copiesStill slX11_copiesStill rfl ly_243 ⟨_, rfl, rfl⟩ rln_243 naX11_copiesStill (Nat.le_of_ble_eq_true rfl) (Nat.le_of_ble_eq_true rfl) (by decide) (fun _ hq => wX11_copiesStill μ hq) h (fun q4 h => ?_)
        refine rw_iconst 30 (v := -1) dX11_best_30 (by decide) ?_
        refine rw_istore 31 [(0, .ref 243), (1, .int a1), (2, .int a2), (3, .int a3), (4, .int (-1))] dX11_best_31 (by decide) rfl ?_
        refine rw_iconst 33 (v := -1) dX11_best_33 (by decide) ?_
        refine rw_istore 34 [(0, .ref 243), (1, .int a1), (2, .int a2), (3, .int a3), (4, .int (-1)), (5, .int (-1))] dX11_best_34 (by decide) rfl ?_
        refine rw_iconst 36 (v := 0) dX11_best_36 (by decide) ?_
        refine rw_istore 37 [(0, .ref 243), (1, .int a1), (2, .int a2), (3, .int a3), (4, .int (-1)), (5, .int (-1)), (6, .int 0)] dX11_best_37 (by decide) rfl ?_
        refine wX11_best_39 a1 a2 a3 _ (fun y9 y10 μ11 h => ?_) FU (-1) (-1) 0 q4 h
        refine rw_iload_n 76 dX11_best_76 0 rfl ?_
        refine rn_if_ne 77 85 dX11_best_77 (by decide) h (fun _ h => ?_) (fun _ h => ?_)
        · refine rw_iload 85 dX11_best_85 2 rfl ?_
          exact rn_iret2 87 dX11_best_87 rfl h
        · refine rw_iload 80 dX11_best_80 1 rfl ?_
          refine rw_goto 82 87 dX11_best_82 (by decide) ?_
          exact rn_iret2 87 dX11_best_87 rfl h
      · refine rw_iconst 24 (v := -1) dX11_best_24 (by decide) ?_
        exact rn_iret2 25 dX11_best_25 rfl h
def fX11_earned (a1 : Int32) (μ : Mem) : Option (Int32 × Mem) :=
  (fX11_isLong a1 μ).bind fun q1 =>
  if q1 = true then
    (fX11_copiesStill μ).bind fun q2 =>
    (fX11_goes a1 q2).bind fun q3 =>
    some (((q3.1 277 30) - (q3.1 276 30)), q3)
  else
    some ((-1), μ)
set_option maxRecDepth 100000 in
theorem wX11_earned (a1 : Int32) (μ : Mem) {res : Int32 × Mem} (h : fX11_earned a1 μ = some res) : Ct mX11_earned 8 NF NF [.ref 243, .int a1] (μ, Rf0, NF) (QN (some (.int res.1)) res.2 Rf0 NF) := by
  unfold fX11_earned at h
  show RW mX11_earned 8 NF NF 0 [(0, .ref 243), (1, .int a1)] [] (μ, Rf0, NF) (QN (some (.int res.1)) res.2 Rf0 NF)
  refine rw_iload_n 0 dX11_earned_0 1 rfl ?_
  refine rn_cSpb 1 [.int a1] dX11_earned_1 caX11_isLong lX11_428 stX11_isLong rfl naX11_isLong (Nat.le_of_ble_eq_true rfl) (Nat.le_of_ble_eq_true rfl) (by decide) (fun _ hq => wX11_isLong a1 μ hq) h (fun q1 h => ?_)
  refine rn_ifb_ne 4 9 dX11_earned_4 (by decide) h (fun _ h => ?_) (fun _ h => ?_)
  · refine rw_aload_n 9 dX11_earned_9 0 rfl ?_
    refine rn_cVmv 10 11 [] dX11_earned_10 caX11_copiesStill lX11_473 inX11_copiesStill slX11_copiesStill rfl ly_243 ⟨_, rfl, rfl⟩ rln_243 naX11_copiesStill (Nat.le_of_ble_eq_true rfl) (Nat.le_of_ble_eq_true rfl) (by decide) (fun _ hq => wX11_copiesStill μ hq) h (fun q2 h => ?_)
    refine rw_aload_n 13 dX11_earned_13 0 rfl ?_
    refine rw_iload_n 14 dX11_earned_14 1 rfl ?_
    refine rn_cVmv 15 11 [.int a1] dX11_earned_15 caX11_goes lX11_431 inX11_goes slX11_goes rfl ly_243 ⟨_, rfl, rfl⟩ rln_243 naX11_goes (Nat.le_of_ble_eq_true rfl) (Nat.le_of_ble_eq_true rfl) (by decide) (fun _ hq => wX11_goes a1 q2 hq) h (fun q3 h => ?_)
    refine rw_aload_n 18 dX11_earned_18 0 rfl ?_
    refine rw_getR 19 11 51 kc11 dX11_earned_19 ly_243 rln_243 fX11_119 rfl rf_243_51 ?_
    refine rw_bipush 22 (v := 30) dX11_earned_22 (by decide) ?_
    refine rn_ialdc 24 dX11_earned_24 ly_277 rln_277 (by decide) (j := 30) (by decide) ?_
    refine rw_aload_n 25 dX11_earned_25 0 rfl ?_
    refine rw_getR 26 11 50 kc11 dX11_earned_26 ly_243 rln_243 fX11_116 rfl rf_243_50 ?_
    refine rw_bipush 29 (v := 30) dX11_earned_29 (by decide) ?_
    refine rn_ialdc 31 dX11_earned_31 ly_276 rln_276 (by decide) (j := 30) (by decide) ?_
    refine rw_isub 32 dX11_earned_32 ?_
    exact rn_iret2 33 dX11_earned_33 rfl h
  · refine rw_iconst 7 (v := -1) dX11_earned_7 (by decide) ?_
    exact rn_iret2 8 dX11_earned_8 rfl h
def fX11_then (a1 : Int32) (a2 : Int32) (a3 : Int32) (μ : Mem) : Option (Int32 × Mem) :=
  (fX11_isGuest a1 μ).bind fun q1 =>
  if q1 = true then
    (fX11_isLong a2 μ).bind fun q2 =>
    if q2 = true then
      (fX11_in a3 0 2 μ).bind fun q3 =>
      if q3 = true then
        (fX11_copies μ).bind fun q4 =>
        (fX11_goes a2 q4).bind fun q5 =>
        if inb ((7 * a3) + a1) 31 then
        some ((q5.1 277 ((7 * a3) + a1).toNatClampNeg), q5)
        else none
      else
        some ((-1), μ)
    else
      some ((-1), μ)
  else
    some ((-1), μ)
set_option maxRecDepth 100000 in
theorem wX11_then (a1 : Int32) (a2 : Int32) (a3 : Int32) (μ : Mem) {res : Int32 × Mem} (h : fX11_then a1 a2 a3 μ = some res) : Ct mX11_then 8 NF NF [.ref 243, .int a1, .int a2, .int a3] (μ, Rf0, NF) (QN (some (.int res.1)) res.2 Rf0 NF) := by
  unfold fX11_then at h
  show RW mX11_then 8 NF NF 0 [(0, .ref 243), (1, .int a1), (2, .int a2), (3, .int a3)] [] (μ, Rf0, NF) (QN (some (.int res.1)) res.2 Rf0 NF)
  refine rw_aload_n 0 dX11_then_0 0 rfl ?_
  refine rw_iload_n 1 dX11_then_1 1 rfl ?_
  refine rn_cVpb 2 11 [.int a1] dX11_then_2 caX11_isGuest lX11_410 inX11_isGuest slX11_isGuest rfl ly_243 ⟨_, rfl, rfl⟩ rln_243 naX11_isGuest (Nat.le_of_ble_eq_true rfl) (Nat.le_of_ble_eq_true rfl) (by decide) (fun _ hq => wX11_isGuest a1 μ hq) h (fun q1 h => ?_)
  refine rn_ifb_eq 5 24 dX11_then_5 (by decide) h (fun _ h => ?_) (fun _ h => ?_)
  · refine rw_iconst 24 (v := -1) dX11_then_24 (by decide) ?_
    exact rn_iret2 25 dX11_then_25 rfl h
  · refine rw_iload_n 8 dX11_then_8 2 rfl ?_
    refine rn_cSpb 9 [.int a2] dX11_then_9 caX11_isLong lX11_428 stX11_isLong rfl naX11_isLong (Nat.le_of_ble_eq_true rfl) (Nat.le_of_ble_eq_true rfl) (by decide) (fun _ hq => wX11_isLong a2 μ hq) h (fun q2 h => ?_)
    refine rn_ifb_eq 12 24 dX11_then_12 (by decide) h (fun _ h => ?_) (fun _ h => ?_)
    · refine rw_iconst 24 (v := -1) dX11_then_24 (by decide) ?_
      exact rn_iret2 25 dX11_then_25 rfl h
    · refine rw_iload_n 15 dX11_then_15 3 rfl ?_
      refine rw_iconst 16 (v := 0) dX11_then_16 (by decide) ?_
      refine rw_iconst 17 (v := 2) dX11_then_17 (by decide) ?_
      refine rn_cSpb 18 [.int a3, .int 0, .int 2] dX11_then_18 caX11_in lX11_316 stX11_in rfl naX11_in (Nat.le_of_ble_eq_true rfl) (Nat.le_of_ble_eq_true rfl) (by decide) (fun _ hq => wX11_in a3 0 2 μ hq) h (fun q3 h => ?_)
      refine rn_ifb_ne 21 26 dX11_then_21 (by decide) h (fun _ h => ?_) (fun _ h => ?_)
      · refine rw_aload_n 26 dX11_then_26 0 rfl ?_
        refine rn_cVmv 27 11 [] dX11_then_27 caX11_copies lX11_326 inX11_copies slX11_copies rfl ly_243 ⟨_, rfl, rfl⟩ rln_243 naX11_copies (Nat.le_of_ble_eq_true rfl) (Nat.le_of_ble_eq_true rfl) (by decide) (fun _ hq => wX11_copies μ hq) h (fun q4 h => ?_)
        refine rw_aload_n 30 dX11_then_30 0 rfl ?_
        refine rw_iload_n 31 dX11_then_31 2 rfl ?_
        refine rn_cVmv 32 11 [.int a2] dX11_then_32 caX11_goes lX11_431 inX11_goes slX11_goes rfl ly_243 ⟨_, rfl, rfl⟩ rln_243 naX11_goes (Nat.le_of_ble_eq_true rfl) (Nat.le_of_ble_eq_true rfl) (by decide) (fun _ hq => wX11_goes a2 q4 hq) h (fun q5 h => ?_)
        refine rw_aload_n 35 dX11_then_35 0 rfl ?_
        refine rw_getR 36 11 51 kc11 dX11_then_36 ly_243 rln_243 fX11_119 rfl rf_243_51 ?_
        refine rw_bipush 39 (v := 7) dX11_then_39 (by decide) ?_
        refine rw_iload_n 41 dX11_then_41 3 rfl ?_
        refine rw_imul 42 dX11_then_42 ?_
        refine rw_iload_n 43 dX11_then_43 1 rfl ?_
        refine rw_iadd 44 dX11_then_44 ?_
        refine rn_iald 45 dX11_then_45 ly_277 rln_277 h (fun h => ?_)
        exact rn_iret2 46 dX11_then_46 rfl h
      · refine rw_iconst 24 (v := -1) dX11_then_24 (by decide) ?_
        exact rn_iret2 25 dX11_then_25 rfl h
def fX11_wornIn (a1 : Int32) (a2 : Int32) (μ : Mem) : Option (Int32 × Mem) :=
  (fX11_isSunday a1 μ).bind fun q1 =>
  if q1 = true then
    (fX11_isLong a2 μ).bind fun q2 =>
    if q2 = true then
      (fX11_copies μ).bind fun q3 =>
      (fX11_goes a2 q3).bind fun q4 =>
      if inb (21 + a1) 31 then
      some ((q4.1 277 (21 + a1).toNatClampNeg), q4)
      else none
    else
      some ((-1), μ)
  else
    some ((-1), μ)
set_option maxRecDepth 100000 in
theorem wX11_wornIn (a1 : Int32) (a2 : Int32) (μ : Mem) {res : Int32 × Mem} (h : fX11_wornIn a1 a2 μ = some res) : Ct mX11_wornIn 8 NF NF [.ref 243, .int a1, .int a2] (μ, Rf0, NF) (QN (some (.int res.1)) res.2 Rf0 NF) := by
  unfold fX11_wornIn at h
  show RW mX11_wornIn 8 NF NF 0 [(0, .ref 243), (1, .int a1), (2, .int a2)] [] (μ, Rf0, NF) (QN (some (.int res.1)) res.2 Rf0 NF)
  refine rw_aload_n 0 dX11_wornIn_0 0 rfl ?_
  refine rw_iload_n 1 dX11_wornIn_1 1 rfl ?_
  refine rn_cVpb 2 11 [.int a1] dX11_wornIn_2 caX11_isSunday lX11_404 inX11_isSunday slX11_isSunday rfl ly_243 ⟨_, rfl, rfl⟩ rln_243 naX11_isSunday (Nat.le_of_ble_eq_true rfl) (Nat.le_of_ble_eq_true rfl) (by decide) (fun _ hq => wX11_isSunday a1 μ hq) h (fun q1 h => ?_)
  refine rn_ifb_eq 5 15 dX11_wornIn_5 (by decide) h (fun _ h => ?_) (fun _ h => ?_)
  · refine rw_iconst 15 (v := -1) dX11_wornIn_15 (by decide) ?_
    exact rn_iret2 16 dX11_wornIn_16 rfl h
  · refine rw_iload_n 8 dX11_wornIn_8 2 rfl ?_
    refine rn_cSpb 9 [.int a2] dX11_wornIn_9 caX11_isLong lX11_428 stX11_isLong rfl naX11_isLong (Nat.le_of_ble_eq_true rfl) (Nat.le_of_ble_eq_true rfl) (by decide) (fun _ hq => wX11_isLong a2 μ hq) h (fun q2 h => ?_)
    refine rn_ifb_ne 12 17 dX11_wornIn_12 (by decide) h (fun _ h => ?_) (fun _ h => ?_)
    · refine rw_aload_n 17 dX11_wornIn_17 0 rfl ?_
      refine rn_cVmv 18 11 [] dX11_wornIn_18 caX11_copies lX11_326 inX11_copies slX11_copies rfl ly_243 ⟨_, rfl, rfl⟩ rln_243 naX11_copies (Nat.le_of_ble_eq_true rfl) (Nat.le_of_ble_eq_true rfl) (by decide) (fun _ hq => wX11_copies μ hq) h (fun q3 h => ?_)
      refine rw_aload_n 21 dX11_wornIn_21 0 rfl ?_
      refine rw_iload_n 22 dX11_wornIn_22 2 rfl ?_
      refine rn_cVmv 23 11 [.int a2] dX11_wornIn_23 caX11_goes lX11_431 inX11_goes slX11_goes rfl ly_243 ⟨_, rfl, rfl⟩ rln_243 naX11_goes (Nat.le_of_ble_eq_true rfl) (Nat.le_of_ble_eq_true rfl) (by decide) (fun _ hq => wX11_goes a2 q3 hq) h (fun q4 h => ?_)
      refine rw_aload_n 26 dX11_wornIn_26 0 rfl ?_
      refine rw_getR 27 11 51 kc11 dX11_wornIn_27 ly_243 rln_243 fX11_119 rfl rf_243_51 ?_
      refine rw_bipush 30 (v := 21) dX11_wornIn_30 (by decide) ?_
      refine rw_iload_n 32 dX11_wornIn_32 1 rfl ?_
      refine rw_iadd 33 dX11_wornIn_33 ?_
      refine rn_iald 34 dX11_wornIn_34 ly_277 rln_277 h (fun h => ?_)
      exact rn_iret2 35 dX11_wornIn_35 rfl h
    · refine rw_iconst 15 (v := -1) dX11_wornIn_15 (by decide) ?_
      exact rn_iret2 16 dX11_wornIn_16 rfl h
def fX11_year_33   (v1 : Int32) (v2 : Int32) (v3 : Int32)  (K : Int32 → Mem → Option (Int32 × Mem)) : Nat → Int32 → Int32 → Mem → Option (Int32 × Mem)
  | 0, _, _, _ => none
  | n + 1, v4, v5, μ =>
    if v5 < v3 then
      (fX11_copies μ).bind fun q4 =>
      nm (wI q4 243 52 ((q4.1 243 52) + v5)) fun μ5 =>
      (fX11_goes v2 μ5).bind fun q6 =>
      if inb (14 + v1) 31 then
      if (q6.1 277 (14 + v1).toNatClampNeg) = 0 then
        fX11_year_33 v1 v2 v3 K n (v4 + 1) (v5 + 1) q6
      else
        fX11_year_33 v1 v2 v3 K n v4 (v5 + 1) q6
      else none
    else
      K v4 μ
def fX11_year (a1 : Int32) (a2 : Int32) (a3 : Int32) (μ : Mem) : Option (Int32 × Mem) :=
  (fX11_isGuest a1 μ).bind fun q1 =>
  if q1 = true then
    (fX11_isLong a2 μ).bind fun q2 =>
    if q2 = true then
      (fX11_in a3 1 20 μ).bind fun q3 =>
      if q3 = true then
        fX11_year_33 a1 a2 a3 (fun y7 μ8 =>
            some (y7, μ8)
        ) FU 0 0 μ
      else
        some ((-1), μ)
    else
      some ((-1), μ)
  else
    some ((-1), μ)
set_option maxRecDepth 100000 in
theorem wX11_year_33   (v1 : Int32) (v2 : Int32) (v3 : Int32)  (K : Int32 → Mem → Option (Int32 × Mem)) {res : Int32 × Mem} (hK : ∀ (v4 : Int32) (μ : Mem), K v4 μ = some res → RW mX11_year 8 NF NF 80 [(4, .int v4)] [] (μ, Rf0, NF) (QN (some (.int res.1)) res.2 Rf0 NF)) : ∀ (n9 : Nat) (v4 : Int32) (v5 : Int32) (μ : Mem), fX11_year_33 v1 v2 v3 K n9 v4 v5 μ = some res → RW mX11_year 8 NF NF 33 [(0, .ref 243), (1, .int v1), (2, .int v2), (3, .int v3), (4, .int v4), (5, .int v5)] [] (μ, Rf0, NF) (QN (some (.int res.1)) res.2 Rf0 NF) := by
  intro n9
  induction n9 with
  | zero => intro _ _ _ h; cases h
  | succ n ih =>
    intro v4 v5 μ h
    unfold fX11_year_33 at h
    refine rw_iload 33 dX11_year_33 5 rfl ?_
    refine rw_iload_n 35 dX11_year_35 3 rfl ?_
    refine rn_icmp_ge 36 80 dX11_year_36 (by decide) h (fun _ h => ?_) (fun _ h => ?_)
    · refine rw_pick 80 [4] rfl ?_
      exact hK v4 μ h
    · refine rw_aload_n 39 dX11_year_39 0 rfl ?_
      refine rn_cVmv 40 11 [] dX11_year_40 caX11_copies lX11_326 inX11_copies slX11_copies rfl ly_243 ⟨_, rfl, rfl⟩ rln_243 naX11_copies (Nat.le_of_ble_eq_true rfl) (Nat.le_of_ble_eq_true rfl) (by decide) (fun _ hq => wX11_copies μ hq) h (fun q4 h => ?_)
      refine rw_aload_n 43 dX11_year_43 0 rfl ?_
      refine rw_dup 44 dX11_year_44 rfl ?_
      refine rw_getI 45 11 52 kc11 dX11_year_45 ly_243 rln_243 fX11_320 rfl ?_
      refine rw_iload 48 dX11_year_48 5 rfl ?_
      refine rw_iadd 50 dX11_year_50 ?_
      refine rn_putI 51 11 52 kc11 dX11_year_51 ly_243 rln_243 fX11_320 (fun q hq => by cases hq; rfl) rfl rfl rfl h (fun μ5 h => ?_)
      refine rw_aload_n 54 dX11_year_54 0 rfl ?_
      refine rw_iload_n 55 dX11_year_55 2 rfl ?_
      refine rn_cVmv 56 11 [.int v2] dX11_year_56 caX11_goes lX11_431 inX11_goes slX11_goes rfl ly_243 ⟨_, rfl, rfl⟩ rln_243 naX11_goes (Nat.le_of_ble_eq_true rfl) (Nat.le_of_ble_eq_true rfl) (by decide) (fun _ hq => wX11_goes v2 μ5 hq) h (fun q6 h => ?_)
      refine rw_aload_n 59 dX11_year_59 0 rfl ?_
      refine rw_getR 60 11 51 kc11 dX11_year_60 ly_243 rln_243 fX11_119 rfl rf_243_51 ?_
      refine rw_bipush 63 (v := 14) dX11_year_63 (by decide) ?_
      refine rw_iload_n 65 dX11_year_65 1 rfl ?_
      refine rw_iadd 66 dX11_year_66 ?_
      refine rn_iald 67 dX11_year_67 ly_277 rln_277 h (fun h => ?_)
      refine rn_if_ne 68 74 dX11_year_68 (by decide) h (fun _ h => ?_) (fun _ h => ?_)
      · refine rw_iinc 74 [(0, .ref 243), (1, .int v1), (2, .int v2), (3, .int v3), (4, .int v4), (5, .int (v5 + 1))] dX11_year_74 5 rfl rfl (by decide) rfl ?_
        refine rw_goto 77 33 dX11_year_77 (by decide) ?_
        exact ih v4 (v5 + 1) q6 h
      · refine rw_iinc 71 [(0, .ref 243), (1, .int v1), (2, .int v2), (3, .int v3), (4, .int (v4 + 1)), (5, .int v5)] dX11_year_71 4 rfl rfl (by decide) rfl ?_
        refine rw_iinc 74 [(0, .ref 243), (1, .int v1), (2, .int v2), (3, .int v3), (4, .int (v4 + 1)), (5, .int (v5 + 1))] dX11_year_74 5 rfl rfl (by decide) rfl ?_
        refine rw_goto 77 33 dX11_year_77 (by decide) ?_
        exact ih (v4 + 1) (v5 + 1) q6 h
set_option maxRecDepth 100000 in
theorem wX11_year (a1 : Int32) (a2 : Int32) (a3 : Int32) (μ : Mem) {res : Int32 × Mem} (h : fX11_year a1 a2 a3 μ = some res) : Ct mX11_year 8 NF NF [.ref 243, .int a1, .int a2, .int a3] (μ, Rf0, NF) (QN (some (.int res.1)) res.2 Rf0 NF) := by
  unfold fX11_year at h
  show RW mX11_year 8 NF NF 0 [(0, .ref 243), (1, .int a1), (2, .int a2), (3, .int a3)] [] (μ, Rf0, NF) (QN (some (.int res.1)) res.2 Rf0 NF)
  refine rw_aload_n 0 dX11_year_0 0 rfl ?_
  refine rw_iload_n 1 dX11_year_1 1 rfl ?_
  refine rn_cVpb 2 11 [.int a1] dX11_year_2 caX11_isGuest lX11_410 inX11_isGuest slX11_isGuest rfl ly_243 ⟨_, rfl, rfl⟩ rln_243 naX11_isGuest (Nat.le_of_ble_eq_true rfl) (Nat.le_of_ble_eq_true rfl) (by decide) (fun _ hq => wX11_isGuest a1 μ hq) h (fun q1 h => ?_)
  refine rn_ifb_eq 5 25 dX11_year_5 (by decide) h (fun _ h => ?_) (fun _ h => ?_)
  · refine rw_iconst 25 (v := -1) dX11_year_25 (by decide) ?_
    exact rn_iret2 26 dX11_year_26 rfl h
  · refine rw_iload_n 8 dX11_year_8 2 rfl ?_
    refine rn_cSpb 9 [.int a2] dX11_year_9 caX11_isLong lX11_428 stX11_isLong rfl naX11_isLong (Nat.le_of_ble_eq_true rfl) (Nat.le_of_ble_eq_true rfl) (by decide) (fun _ hq => wX11_isLong a2 μ hq) h (fun q2 h => ?_)
    refine rn_ifb_eq 12 25 dX11_year_12 (by decide) h (fun _ h => ?_) (fun _ h => ?_)
    · refine rw_iconst 25 (v := -1) dX11_year_25 (by decide) ?_
      exact rn_iret2 26 dX11_year_26 rfl h
    · refine rw_iload_n 15 dX11_year_15 3 rfl ?_
      refine rw_iconst 16 (v := 1) dX11_year_16 (by decide) ?_
      refine rw_bipush 17 (v := 20) dX11_year_17 (by decide) ?_
      refine rn_cSpb 19 [.int a3, .int 1, .int 20] dX11_year_19 caX11_in lX11_316 stX11_in rfl naX11_in (Nat.le_of_ble_eq_true rfl) (Nat.le_of_ble_eq_true rfl) (by decide) (fun _ hq => wX11_in a3 1 20 μ hq) h (fun q3 h => ?_)
      refine rn_ifb_ne 22 27 dX11_year_22 (by decide) h (fun _ h => ?_) (fun _ h => ?_)
      · refine rw_iconst 27 (v := 0) dX11_year_27 (by decide) ?_
        refine rw_istore 28 [(0, .ref 243), (1, .int a1), (2, .int a2), (3, .int a3), (4, .int 0)] dX11_year_28 (by decide) rfl ?_
        refine rw_iconst 30 (v := 0) dX11_year_30 (by decide) ?_
        refine rw_istore 31 [(0, .ref 243), (1, .int a1), (2, .int a2), (3, .int a3), (4, .int 0), (5, .int 0)] dX11_year_31 (by decide) rfl ?_
        refine wX11_year_33 a1 a2 a3 _ (fun y7 μ8 h => ?_) FU 0 0 μ h
        refine rw_iload 80 dX11_year_80 0 rfl ?_
        exact rn_iret2 82 dX11_year_82 rfl h
      · refine rw_iconst 25 (v := -1) dX11_year_25 (by decide) ?_
        exact rn_iret2 26 dX11_year_26 rfl h
def fX11_tell (a1 : Int32) (a2 : Int32) (μ : Mem) : Option (Int32 × Mem) :=
  if (μ.1 243 62) = 20 then
    some ((-1), μ)
  else
    (fX11_in a1 0 23 μ).bind fun q1 =>
    if q1 = true then
      if inb (μ.1 243 62) 20 then nm (wI μ 285 (μ.1 243 62).toNatClampNeg a1) fun μ2 =>
      if inb (μ2.1 243 62) 20 then nm (wI μ2 286 (μ2.1 243 62).toNatClampNeg (a2 &&& 1)) fun μ3 =>
      nm (wI μ3 243 62 ((μ3.1 243 62) + 1)) fun μ4 =>
      some (((μ4.1 243 62) - 1), μ4)
      else none
      else none
    else
      some ((-1), μ)
set_option maxRecDepth 100000 in
theorem wX11_tell (a1 : Int32) (a2 : Int32) (μ : Mem) {res : Int32 × Mem} (h : fX11_tell a1 a2 μ = some res) : Ct mX11_tell 2 NF NF [.ref 243, .int a1, .int a2] (μ, Rf0, NF) (QN (some (.int res.1)) res.2 Rf0 NF) := by
  unfold fX11_tell at h
  show RW mX11_tell 2 NF NF 0 [(0, .ref 243), (1, .int a1), (2, .int a2)] [] (μ, Rf0, NF) (QN (some (.int res.1)) res.2 Rf0 NF)
  refine rw_aload_n 0 dX11_tell_0 0 rfl ?_
  refine rw_getI 1 11 62 kc11 dX11_tell_1 ly_243 rln_243 fX11_257 rfl ?_
  refine rw_bipush 4 (v := 20) dX11_tell_4 (by decide) ?_
  refine rn_icmp_eq 6 19 dX11_tell_6 (by decide) h (fun _ h => ?_) (fun _ h => ?_)
  · refine rw_iconst 19 (v := -1) dX11_tell_19 (by decide) ?_
    exact rn_iret2 20 dX11_tell_20 rfl h
  · refine rw_iload_n 9 dX11_tell_9 1 rfl ?_
    refine rw_iconst 10 (v := 0) dX11_tell_10 (by decide) ?_
    refine rw_bipush 11 (v := 23) dX11_tell_11 (by decide) ?_
    refine rn_cSpb 13 [.int a1, .int 0, .int 23] dX11_tell_13 caX11_in lX11_316 stX11_in rfl naX11_in (Nat.le_of_ble_eq_true rfl) (Nat.le_of_ble_eq_true rfl) (by decide) (fun _ hq => wX11_in a1 0 23 μ hq) h (fun q1 h => ?_)
    refine rn_ifb_ne 16 21 dX11_tell_16 (by decide) h (fun _ h => ?_) (fun _ h => ?_)
    · refine rw_aload_n 21 dX11_tell_21 0 rfl ?_
      refine rw_getR 22 11 63 kc11 dX11_tell_22 ly_243 rln_243 fX11_143 rfl rf_243_63 ?_
      refine rw_aload_n 25 dX11_tell_25 0 rfl ?_
      refine rw_getI 26 11 62 kc11 dX11_tell_26 ly_243 rln_243 fX11_257 rfl ?_
      refine rw_iload_n 29 dX11_tell_29 1 rfl ?_
      refine rn_iast 30 dX11_tell_30 ly_285 rln_285 h (fun μ2 h => ?_)
      refine rw_aload_n 31 dX11_tell_31 0 rfl ?_
      refine rw_getR 32 11 64 kc11 dX11_tell_32 ly_243 rln_243 fX11_146 rfl rf_243_64 ?_
      refine rw_aload_n 35 dX11_tell_35 0 rfl ?_
      refine rw_getI 36 11 62 kc11 dX11_tell_36 ly_243 rln_243 fX11_257 rfl ?_
      refine rw_iload_n 39 dX11_tell_39 2 rfl ?_
      refine rn_zast 40 dX11_tell_40 ly_286 rln_286 h (fun μ3 h => ?_)
      refine rw_aload_n 41 dX11_tell_41 0 rfl ?_
      refine rw_dup 42 dX11_tell_42 rfl ?_
      refine rw_getI 43 11 62 kc11 dX11_tell_43 ly_243 rln_243 fX11_257 rfl ?_
      refine rw_iconst 46 (v := 1) dX11_tell_46 (by decide) ?_
      refine rw_iadd 47 dX11_tell_47 ?_
      refine rn_putI 48 11 62 kc11 dX11_tell_48 ly_243 rln_243 fX11_257 (fun q hq => by cases hq; rfl) rfl rfl rfl h (fun μ4 h => ?_)
      refine rw_aload_n 51 dX11_tell_51 0 rfl ?_
      refine rw_getI 52 11 62 kc11 dX11_tell_52 ly_243 rln_243 fX11_257 rfl ?_
      refine rw_iconst 55 (v := 1) dX11_tell_55 (by decide) ?_
      refine rw_isub 56 dX11_tell_56 ?_
      exact rn_iret2 57 dX11_tell_57 rfl h
    · refine rw_iconst 19 (v := -1) dX11_tell_19 (by decide) ?_
      exact rn_iret2 20 dX11_tell_20 rfl h
def fX11_forget  (μ : Mem) : Option (Int32 × Mem) :=
  nm (wI μ 243 62 0) fun μ1 =>
  some ((μ.1 243 62), μ1)
set_option maxRecDepth 100000 in
theorem wX11_forget  (μ : Mem) {res : Int32 × Mem} (h : fX11_forget  μ = some res) : Ct mX11_forget 1 NF NF [.ref 243] (μ, Rf0, NF) (QN (some (.int res.1)) res.2 Rf0 NF) := by
  unfold fX11_forget at h
  show RW mX11_forget 1 NF NF 0 [(0, .ref 243)] [] (μ, Rf0, NF) (QN (some (.int res.1)) res.2 Rf0 NF)
  refine rw_aload_n 0 dX11_forget_0 0 rfl ?_
  refine rw_getI 1 11 62 kc11 dX11_forget_1 ly_243 rln_243 fX11_257 rfl ?_
  refine rw_istore_n 4 [(0, .ref 243), (1, .int (μ.1 243 62))] dX11_forget_4 (by decide) rfl ?_
  refine rw_aload_n 5 dX11_forget_5 0 rfl ?_
  refine rw_iconst 6 (v := 0) dX11_forget_6 (by decide) ?_
  refine rn_putI 7 11 62 kc11 dX11_forget_7 ly_243 rln_243 fX11_257 (fun q hq => by cases hq; rfl) rfl rfl rfl h (fun μ1 h => ?_)
  refine rw_iload_n 10 dX11_forget_10 1 rfl ?_
  exact rn_iret2 11 dX11_forget_11 rfl h
def fX11_isThere (a1 : Int32) (a2 : Int32) (μ : Mem) : Option (Bool) :=
  (fX11_fromAt a1 μ).bind fun q1 =>
  (fX11_tillAt a1 μ).bind fun q2 =>
  (fX11_in a2 q1 (q2 - 1) μ).bind fun q3 =>
  some q3
set_option maxRecDepth 100000 in
theorem wX11_isThere (a1 : Int32) (a2 : Int32) (μ : Mem) {res : Bool} (h : fX11_isThere a1 a2 μ = some res) : Ct mX11_isThere 2 NF NF [.ref 243, .int a1, .int a2] (μ, Rf0, NF) (QN (some (.int (b2i res))) μ Rf0 NF) := by
  unfold fX11_isThere at h
  show RW mX11_isThere 2 NF NF 0 [(0, .ref 243), (1, .int a1), (2, .int a2)] [] (μ, Rf0, NF) (QN (some (.int (b2i res))) μ Rf0 NF)
  refine rw_iload_n 0 dX11_isThere_0 2 rfl ?_
  refine rw_aload_n 1 dX11_isThere_1 0 rfl ?_
  refine rw_iload_n 2 dX11_isThere_2 1 rfl ?_
  refine rn_cVpi 3 11 [.int a1] dX11_isThere_3 caX11_fromAt lX11_333 inX11_fromAt slX11_fromAt rfl ly_243 ⟨_, rfl, rfl⟩ rln_243 naX11_fromAt (Nat.le_of_ble_eq_true rfl) (Nat.le_of_ble_eq_true rfl) (by decide) (fun _ hq => wX11_fromAt a1 μ hq) h (fun q1 h => ?_)
  refine rw_aload_n 6 dX11_isThere_6 0 rfl ?_
  refine rw_iload_n 7 dX11_isThere_7 1 rfl ?_
  refine rn_cVpi 8 11 [.int a1] dX11_isThere_8 caX11_tillAt lX11_336 inX11_tillAt slX11_tillAt rfl ly_243 ⟨_, rfl, rfl⟩ rln_243 naX11_tillAt (Nat.le_of_ble_eq_true rfl) (Nat.le_of_ble_eq_true rfl) (by decide) (fun _ hq => wX11_tillAt a1 μ hq) h (fun q2 h => ?_)
  refine rw_iconst 11 (v := 1) dX11_isThere_11 (by decide) ?_
  refine rw_isub 12 dX11_isThere_12 ?_
  refine rn_cSpb 13 [.int a2, .int q1, .int (q2 - 1)] dX11_isThere_13 caX11_in lX11_316 stX11_in rfl naX11_in (Nat.le_of_ble_eq_true rfl) (Nat.le_of_ble_eq_true rfl) (by decide) (fun _ hq => wX11_in a2 q1 (q2 - 1) μ hq) h (fun q3 h => ?_)
  exact rn_zret 16 (v := q3) dX11_isThere_16 rfl h
def fX11_whoseBits_23   (v1 : Int32) (v2 : Int32) (v3 : Int32) (μ : Mem) (K : Int32 → Option (Int32)) : Nat → Int32 → Int32 → Option (Int32)
  | 0, _, _ => none
  | n + 1, v4, v5 =>
    if v5 < v1 then
      if inb v5 20 then
      (fX11_isThere v3 (μ.1 285 v5.toNatClampNeg) μ).bind fun q1 =>
      if inb v5 20 then
      if (b2i q1) = (μ.1 286 v5.toNatClampNeg) then
        fX11_whoseBits_23 v1 v2 v3 μ K n v4 (v5 + 1)
      else
        fX11_whoseBits_23 v1 v2 v3 μ K n 0 (v5 + 1)
      else none
      else none
    else
      K v4
def fX11_whoseBits_4   (v1 : Int32) (μ : Mem) (K : Int32 → Option (Int32)) : Nat → Int32 → Int32 → Option (Int32)
  | 0, _, _ => none
  | n + 1, v2, v3 =>
    if inb (μ.1 243 18) 2 then
    if v3 < (μ.1 256 (μ.1 243 18).toNatClampNeg) then
      fX11_whoseBits_23 v1 v2 v3 μ (fun y2 =>
          if y2 = 0 then
            fX11_whoseBits_4 v1 μ K n v2 (v3 + 1)
          else
            nm (v2 ||| ((1 : Int32) <<< (v3 &&& 31))) fun x3 =>
            fX11_whoseBits_4 v1 μ K n x3 (v3 + 1)
      ) FU 1 0
    else
      K v2
    else none
def fX11_whoseBits (a1 : Int32) (μ : Mem) : Option (Int32) :=
  fX11_whoseBits_4 a1 μ (fun y4 =>
      some y4
  ) FU 0 0
set_option maxRecDepth 100000 in
theorem wX11_whoseBits_23   (v1 : Int32) (v2 : Int32) (v3 : Int32) (μ : Mem) (K : Int32 → Option (Int32)) {res : Int32} (hK : ∀ (v4 : Int32), K v4 = some res → RW mX11_whoseBits 3 NF NF 60 [(0, .ref 243), (1, .int v1), (2, .int v2), (3, .int v3), (4, .int v4)] [] (μ, Rf0, NF) (QN (some (.int res)) μ Rf0 NF)) : ∀ (n9 : Nat) (v4 : Int32) (v5 : Int32), fX11_whoseBits_23 v1 v2 v3 μ K n9 v4 v5 = some res → RW mX11_whoseBits 3 NF NF 23 [(0, .ref 243), (1, .int v1), (2, .int v2), (3, .int v3), (4, .int v4), (5, .int v5)] [] (μ, Rf0, NF) (QN (some (.int res)) μ Rf0 NF) := by
  intro n9
  induction n9 with
  | zero => intro _ _ h; cases h
  | succ n ih =>
    intro v4 v5 h
    unfold fX11_whoseBits_23 at h
    refine rw_iload 23 dX11_whoseBits_23 5 rfl ?_
    refine rw_iload_n 25 dX11_whoseBits_25 1 rfl ?_
    refine rn_icmp_ge 26 60 dX11_whoseBits_26 (by decide) h (fun _ h => ?_) (fun _ h => ?_)
    · refine rw_pick 60 [0, 1, 2, 3, 4] rfl ?_
      exact hK v4 h
    · refine rw_aload_n 29 dX11_whoseBits_29 0 rfl ?_
      refine rw_iload_n 30 dX11_whoseBits_30 3 rfl ?_
      refine rw_aload_n 31 dX11_whoseBits_31 0 rfl ?_
      refine rw_getR 32 11 63 kc11 dX11_whoseBits_32 ly_243 rln_243 fX11_143 rfl rf_243_63 ?_
      refine rw_iload 35 dX11_whoseBits_35 5 rfl ?_
      refine rn_iald 37 dX11_whoseBits_37 ly_285 rln_285 h (fun h => ?_)
      refine rn_cVpb 38 11 [.int v3, .int (μ.1 285 v5.toNatClampNeg)] dX11_whoseBits_38 caX11_isThere lX11_482 inX11_isThere slX11_isThere rfl ly_243 ⟨_, rfl, rfl⟩ rln_243 naX11_isThere (Nat.le_of_ble_eq_true rfl) (Nat.le_of_ble_eq_true rfl) (by decide) (fun _ hq => wX11_isThere v3 (μ.1 285 v5.toNatClampNeg) μ hq) h (fun q1 h => ?_)
      refine rw_aload_n 41 dX11_whoseBits_41 0 rfl ?_
      refine rw_getR 42 11 64 kc11 dX11_whoseBits_42 ly_243 rln_243 fX11_146 rfl rf_243_64 ?_
      refine rw_iload 45 dX11_whoseBits_45 5 rfl ?_
      refine rn_zald 47 dX11_whoseBits_47 ly_286 rln_286 h (fun h => ?_)
      refine rn_icmp_eq 48 54 dX11_whoseBits_48 (by decide) h (fun _ h => ?_) (fun _ h => ?_)
      · refine rw_iinc 54 [(0, .ref 243), (1, .int v1), (2, .int v2), (3, .int v3), (4, .int v4), (5, .int (v5 + 1))] dX11_whoseBits_54 5 rfl rfl (by decide) rfl ?_
        refine rw_goto 57 23 dX11_whoseBits_57 (by decide) ?_
        exact ih v4 (v5 + 1) h
      · refine rw_iconst 51 (v := 0) dX11_whoseBits_51 (by decide) ?_
        refine rw_istore 52 [(0, .ref 243), (1, .int v1), (2, .int v2), (3, .int v3), (4, .int 0), (5, .int v5)] dX11_whoseBits_52 (by decide) rfl ?_
        refine rw_iinc 54 [(0, .ref 243), (1, .int v1), (2, .int v2), (3, .int v3), (4, .int 0), (5, .int (v5 + 1))] dX11_whoseBits_54 5 rfl rfl (by decide) rfl ?_
        refine rw_goto 57 23 dX11_whoseBits_57 (by decide) ?_
        exact ih 0 (v5 + 1) h
set_option maxRecDepth 100000 in
theorem wX11_whoseBits_4   (v1 : Int32) (μ : Mem) (K : Int32 → Option (Int32)) {res : Int32} (hK : ∀ (v2 : Int32), K v2 = some res → RW mX11_whoseBits 3 NF NF 77 [(2, .int v2)] [] (μ, Rf0, NF) (QN (some (.int res)) μ Rf0 NF)) : ∀ (n9 : Nat) (v2 : Int32) (v3 : Int32), fX11_whoseBits_4 v1 μ K n9 v2 v3 = some res → RW mX11_whoseBits 3 NF NF 4 [(0, .ref 243), (1, .int v1), (2, .int v2), (3, .int v3)] [] (μ, Rf0, NF) (QN (some (.int res)) μ Rf0 NF) := by
  intro n9
  induction n9 with
  | zero => intro _ _ h; cases h
  | succ n ih =>
    intro v2 v3 h
    unfold fX11_whoseBits_4 at h
    refine rw_iload_n 4 dX11_whoseBits_4 3 rfl ?_
    refine rw_aload_n 5 dX11_whoseBits_5 0 rfl ?_
    refine rw_getR 6 11 26 kc11 dX11_whoseBits_6 ly_243 rln_243 fX11_55 rfl rf_243_26 ?_
    refine rw_aload_n 9 dX11_whoseBits_9 0 rfl ?_
    refine rw_getI 10 11 18 kc11 dX11_whoseBits_10 ly_243 rln_243 fX11_236 rfl ?_
    refine rn_iald 13 dX11_whoseBits_13 ly_256 rln_256 h (fun h => ?_)
    refine rn_icmp_ge 14 77 dX11_whoseBits_14 (by decide) h (fun _ h => ?_) (fun _ h => ?_)
    · refine rw_pick 77 [2] rfl ?_
      exact hK v2 h
    · refine rw_iconst 17 (v := 1) dX11_whoseBits_17 (by decide) ?_
      refine rw_istore 18 [(0, .ref 243), (1, .int v1), (2, .int v2), (3, .int v3), (4, .int 1)] dX11_whoseBits_18 (by decide) rfl ?_
      refine rw_iconst 20 (v := 0) dX11_whoseBits_20 (by decide) ?_
      refine rw_istore 21 [(0, .ref 243), (1, .int v1), (2, .int v2), (3, .int v3), (4, .int 1), (5, .int 0)] dX11_whoseBits_21 (by decide) rfl ?_
      refine wX11_whoseBits_23 v1 v2 v3 μ _ (fun y2 h => ?_) FU 1 0 h
      refine rw_iload 60 dX11_whoseBits_60 4 rfl ?_
      refine rn_if_eq 62 71 dX11_whoseBits_62 (by decide) h (fun _ h => ?_) (fun _ h => ?_)
      · refine rw_iinc 71 [(0, .ref 243), (1, .int v1), (2, .int v2), (3, .int (v3 + 1)), (4, .int y2)] dX11_whoseBits_71 3 rfl rfl (by decide) rfl ?_
        refine rw_goto 74 4 dX11_whoseBits_74 (by decide) ?_
        refine rw_pick 4 [0, 1, 2, 3] rfl ?_
        exact ih v2 (v3 + 1) h
      · refine rw_iload_n 65 dX11_whoseBits_65 2 rfl ?_
        refine rw_iconst 66 (v := 1) dX11_whoseBits_66 (by decide) ?_
        refine rw_iload_n 67 dX11_whoseBits_67 3 rfl ?_
        refine rw_ishl 68 dX11_whoseBits_68 ?_
        refine rw_ior 69 dX11_whoseBits_69 ?_
        refine rn_ist_n 70 (fun x3 => [(0, .ref 243), (1, .int v1), (2, .int x3), (3, .int v3), (4, .int y2)]) dX11_whoseBits_70 (by decide) (fun _ => rfl) h (fun x3 h => ?_)
        refine rw_iinc 71 [(0, .ref 243), (1, .int v1), (2, .int x3), (3, .int (v3 + 1)), (4, .int y2)] dX11_whoseBits_71 3 rfl rfl (by decide) rfl ?_
        refine rw_goto 74 4 dX11_whoseBits_74 (by decide) ?_
        refine rw_pick 4 [0, 1, 2, 3] rfl ?_
        exact ih x3 (v3 + 1) h
set_option maxRecDepth 100000 in
theorem wX11_whoseBits (a1 : Int32) (μ : Mem) {res : Int32} (h : fX11_whoseBits a1 μ = some res) : Ct mX11_whoseBits 3 NF NF [.ref 243, .int a1] (μ, Rf0, NF) (QN (some (.int res)) μ Rf0 NF) := by
  unfold fX11_whoseBits at h
  show RW mX11_whoseBits 3 NF NF 0 [(0, .ref 243), (1, .int a1)] [] (μ, Rf0, NF) (QN (some (.int res)) μ Rf0 NF)
  refine rw_iconst 0 (v := 0) dX11_whoseBits_0 (by decide) ?_
  refine rw_istore_n 1 [(0, .ref 243), (1, .int a1), (2, .int 0)] dX11_whoseBits_1 (by decide) rfl ?_
  refine rw_iconst 2 (v := 0) dX11_whoseBits_2 (by decide) ?_
  refine rw_istore_n 3 [(0, .ref 243), (1, .int a1), (2, .int 0), (3, .int 0)] dX11_whoseBits_3 (by decide) rfl ?_
  refine wX11_whoseBits_4 a1 μ _ (fun y4 h => ?_) FU 0 0 h
  refine rw_iload_n 77 dX11_whoseBits_77 0 rfl ?_
  exact rn_iret 78 dX11_whoseBits_78 rfl h
