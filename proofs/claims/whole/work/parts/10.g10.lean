def fX11_expression_j46_23   (KB : Mem → Option (Mem)) (K : Mem → Option (Mem)) (v1 : Int32) (μ : Mem) : Option (Mem) :=
  nm (wI μ 243 12 ((μ.1 243 12) + 1)) fun μ3 =>
  (fX11_goesOn μ3).bind fun q4 =>
  if inb (q4.1 243 46) 64 then nm (wI q4 273 (q4.1 243 46).toNatClampNeg 6) fun μ5 =>
  nm (wI μ5 243 46 ((μ5.1 243 46) + 1)) fun μ6 =>
  KB μ6
  else none
def fX11_expression_23   (v1 : Int32)  (K : Mem → Option (Mem)) : Nat → Mem → Option (Mem)
  | 0, _ => none
  | n + 1, μ =>
    (fX11_is 6 μ).bind fun q2 =>
    if q2 = true then
      if (μ.1 243 12) = 6 then
        (fX11_fail 2 μ).bind fun q7 =>
        fX11_expression_j46_23 (fun zm => fX11_expression_23 v1 K n zm) K v1 q7
      else
        fX11_expression_j46_23 (fun zm => fX11_expression_23 v1 K n zm) K v1 μ
    else
      K μ
def fX11_expression_96   (v1 : Int32)  (K : Mem → Option (Mem)) : Nat → Mem → Option (Mem)
  | 0, _ => none
  | n + 1, μ =>
    (fX11_is 7 μ).bind fun q10 =>
    if q10 = true then
      if v1 < (μ.1 243 12) then
        (fX11_comesOut 0 μ).bind fun q11 =>
        nm (wI q11 243 46 ((q11.1 243 46) - 1)) fun μ12 =>
        nm (wI μ12 243 12 ((μ12.1 243 12) - 1)) fun μ13 =>
        (fX11_goesOn μ13).bind fun q14 =>
        fX11_expression_96 v1 K n q14
      else
        K μ
    else
      K μ
def fX11_expression_j234_12   (KB : Int32 → Mem → Option (Mem)) (K : Mem → Option (Mem)) (v1 : Int32) (v2 : Int32) (s0 : Int32) (μ : Mem) : Option (Mem) :=
  (fX11_comesOut s0 μ).bind fun q18 =>
  if inb (q18.1 243 11) 403 then
  if inb (q18.1 243 46) 64 then nm (wI q18 273 (q18.1 243 46).toNatClampNeg (q18.1 246 (q18.1 243 11).toNatClampNeg)) fun μ19 =>
  nm (wI μ19 243 46 ((μ19.1 243 46) + 1)) fun μ20 =>
  (fX11_goesOn μ20).bind fun q21 =>
  KB v2 q21
  else none
  else none
def fX11_expression_j186_12   (KB : Int32 → Mem → Option (Mem)) (K : Mem → Option (Mem)) (v1 : Int32) (s0 : Int32) (μ : Mem) : Option (Mem) :=
  if s0 = 0 then
    if v1 < (μ.1 243 12) then
      (fX11_fail 1 μ).bind fun q24 =>
      (fX11_comesOut 0 q24).bind fun q25 =>
      some q25
    else
      (fX11_comesOut 0 μ).bind fun q23 =>
      some q23
  else
    (fX11_is 10 μ).bind fun q17 =>
    if q17 = true then
      fX11_expression_j234_12 (fun z0 zm => KB z0 zm) K v1 s0 1 μ
    else
      (fX11_is 15 μ).bind fun q22 =>
      if q22 = true then
        fX11_expression_j234_12 (fun z0 zm => KB z0 zm) K v1 s0 1 μ
      else
        fX11_expression_j234_12 (fun z0 zm => KB z0 zm) K v1 s0 0 μ
def fX11_expression_j145_12   (KB : Int32 → Mem → Option (Mem)) (K : Mem → Option (Mem)) (v1 : Int32) (μ : Mem) : Option (Mem) :=
  (fX11_is 8 μ).bind fun q16 =>
  if q16 = true then
    fX11_expression_j186_12 (fun z0 zm => KB z0 zm) K v1 1 μ
  else
    (fX11_is 9 μ).bind fun q26 =>
    if q26 = true then
      fX11_expression_j186_12 (fun z0 zm => KB z0 zm) K v1 1 μ
    else
      (fX11_is 10 μ).bind fun q27 =>
      if q27 = true then
        fX11_expression_j186_12 (fun z0 zm => KB z0 zm) K v1 1 μ
      else
        (fX11_is 15 μ).bind fun q28 =>
        if q28 = true then
          fX11_expression_j186_12 (fun z0 zm => KB z0 zm) K v1 1 μ
        else
          fX11_expression_j186_12 (fun z0 zm => KB z0 zm) K v1 0 μ
def fX11_expression_12   (v1 : Int32)  (K : Mem → Option (Mem)) : Nat → Int32 → Mem → Option (Mem)
  | 0, _, _ => none
  | n + 1, v2, μ =>
    if v2 = 0 then
      K μ
    else
      if (μ.1 243 13) = 0 then
        fX11_expression_23 v1 (fun μ8 =>
            (fX11_unit μ8).bind fun q9 =>
            if 0 < (q9.1 243 13) then
              some q9
            else
              fX11_expression_96 v1 (fun μ15 =>
                  fX11_expression_j145_12 (fun z0 zm => fX11_expression_12 v1 K n z0 zm) K v1 μ15
              ) FU q9
        ) FU μ
      else
        K μ
def fX11_expression  (μ : Mem) : Option (Mem) :=
  nm (wI μ 243 46 0) fun μ1 =>
  fX11_expression_12 (μ1.1 243 12) (fun μ29 =>
      some μ29
  ) FU 1 μ1
set_option maxRecDepth 100000 in
theorem wX11_expression_j46_23   {res : Mem} (v1 : Int32) (μ : Mem) (KB : Mem → Option (Mem)) (hB : ∀ (um : Mem), KB um = some res → RW mX11_expression 4 NF NF 23 [(0, .ref 243), (1, .int v1)] [] (um, Rf0, NF) (QN none res Rf0 NF)) (K : Mem → Option (Mem)) (hK : ∀ (um : Mem), K um = some res → RW mX11_expression 4 NF NF 84 [(0, .ref 243), (1, .int v1)] [] (um, Rf0, NF) (QN none res Rf0 NF)) (h : fX11_expression_j46_23 KB K v1 μ = some res) : RW mX11_expression 4 NF NF 46 [(0, .ref 243), (1, .int v1)] [] (μ, Rf0, NF) (QN none res Rf0 NF) := by
  unfold fX11_expression_j46_23 at h
  refine rw_aload_n 46 dX11_expression_46 0 rfl ?_
  refine rw_dup 47 dX11_expression_47 rfl ?_
  refine rw_getI 48 11 12 kc11 dX11_expression_48 ly_243 rln_243 fX11_233 rfl ?_
  refine rw_iconst 51 (v := 1) dX11_expression_51 (by decide) ?_
  refine rw_iadd 52 dX11_expression_52 ?_
  refine rn_putI 53 11 12 kc11 dX11_expression_53 ly_243 rln_243 fX11_233 (fun q hq => by cases hq; rfl) rfl rfl rfl h (fun μ3 h => ?_)
  refine rw_aload_n 56 dX11_expression_56 0 rfl ?_
  refine rn_cVmv 57 11 [] dX11_expression_57 caX11_goesOn lX11_227 inX11_goesOn slX11_goesOn rfl ly_243 ⟨_, rfl, rfl⟩ rln_243 naX11_goesOn (Nat.le_of_ble_eq_true rfl) (Nat.le_of_ble_eq_true rfl) (by decide) (fun _ hq => wX11_goesOn μ3 hq) h (fun q4 h => ?_)
  refine rw_aload_n 60 dX11_expression_60 0 rfl ?_
  refine rw_getR 61 11 45 kc11 dX11_expression_61 ly_243 rln_243 fX11_107 rfl rf_243_45 ?_
  refine rw_aload_n 64 dX11_expression_64 0 rfl ?_
  refine rw_getI 65 11 46 kc11 dX11_expression_65 ly_243 rln_243 fX11_299 rfl ?_
  refine rw_bipush 68 (v := 6) dX11_expression_68 (by decide) ?_
  refine rn_iast 70 dX11_expression_70 ly_273 rln_273 h (fun μ5 h => ?_)
  refine rw_aload_n 71 dX11_expression_71 0 rfl ?_
  refine rw_dup 72 dX11_expression_72 rfl ?_
  refine rw_getI 73 11 46 kc11 dX11_expression_73 ly_243 rln_243 fX11_299 rfl ?_
  refine rw_iconst 76 (v := 1) dX11_expression_76 (by decide) ?_
  refine rw_iadd 77 dX11_expression_77 ?_
  refine rn_putI 78 11 46 kc11 dX11_expression_78 ly_243 rln_243 fX11_299 (fun q hq => by cases hq; rfl) rfl rfl rfl h (fun μ6 h => ?_)
  refine rw_goto 81 23 dX11_expression_81 (by decide) ?_
  exact hB μ6 h
set_option maxRecDepth 100000 in
theorem wX11_expression_23   (v1 : Int32)  (K : Mem → Option (Mem)) {res : Mem} (hK : ∀  (μ : Mem), K μ = some res → RW mX11_expression 4 NF NF 84 [(0, .ref 243), (1, .int v1)] [] (μ, Rf0, NF) (QN none res Rf0 NF)) : ∀ (n9 : Nat)  (μ : Mem), fX11_expression_23 v1 K n9 μ = some res → RW mX11_expression 4 NF NF 23 [(0, .ref 243), (1, .int v1)] [] (μ, Rf0, NF) (QN none res Rf0 NF) := by
  intro n9
  induction n9 with
  | zero => intro _ h; cases h
  | succ n ih =>
    intro μ h
    unfold fX11_expression_23 at h
    refine rw_aload_n 23 dX11_expression_23 0 rfl ?_
    refine rw_bipush 24 (v := 6) dX11_expression_24 (by decide) ?_
    refine rn_cVpb 26 11 [.int 6] dX11_expression_26 caX11_is lX11_224 inX11_is slX11_is rfl ly_243 ⟨_, rfl, rfl⟩ rln_243 naX11_is (Nat.le_of_ble_eq_true rfl) (Nat.le_of_ble_eq_true rfl) (by decide) (fun _ hq => wX11_is 6 μ hq) h (fun q2 h => ?_)
    refine rn_ifb_eq 29 84 dX11_expression_29 (by decide) h (fun _ h => ?_) (fun _ h => ?_)
    · exact hK μ h
    · refine rw_aload_n 32 dX11_expression_32 0 rfl ?_
      refine rw_getI 33 11 12 kc11 dX11_expression_33 ly_243 rln_243 fX11_233 rfl ?_
      refine rw_bipush 36 (v := 6) dX11_expression_36 (by decide) ?_
      refine rn_icmp_ne 38 46 dX11_expression_38 (by decide) h (fun _ h => ?_) (fun _ h => ?_)
      · exact wX11_expression_j46_23 v1 μ _ (fun zm h => ih zm h) K hK h
      · refine rw_aload_n 41 dX11_expression_41 0 rfl ?_
        refine rw_iconst 42 (v := 2) dX11_expression_42 (by decide) ?_
        refine rn_cVmv 43 11 [.int 2] dX11_expression_43 caX11_fail lX11_221 inX11_fail slX11_fail rfl ly_243 ⟨_, rfl, rfl⟩ rln_243 naX11_fail (Nat.le_of_ble_eq_true rfl) (Nat.le_of_ble_eq_true rfl) (by decide) (fun _ hq => wX11_fail 2 μ hq) h (fun q7 h => ?_)
        exact wX11_expression_j46_23 v1 q7 _ (fun zm h => ih zm h) K hK h
set_option maxRecDepth 100000 in
theorem wX11_expression_96   (v1 : Int32)  (K : Mem → Option (Mem)) {res : Mem} (hK : ∀  (μ : Mem), K μ = some res → RW mX11_expression 4 NF NF 145 [(0, .ref 243), (1, .int v1)] [] (μ, Rf0, NF) (QN none res Rf0 NF)) : ∀ (n9 : Nat)  (μ : Mem), fX11_expression_96 v1 K n9 μ = some res → RW mX11_expression 4 NF NF 96 [(0, .ref 243), (1, .int v1)] [] (μ, Rf0, NF) (QN none res Rf0 NF) := by
  intro n9
  induction n9 with
  | zero => intro _ h; cases h
  | succ n ih =>
    intro μ h
    unfold fX11_expression_96 at h
    refine rw_aload_n 96 dX11_expression_96 0 rfl ?_
    refine rw_bipush 97 (v := 7) dX11_expression_97 (by decide) ?_
    refine rn_cVpb 99 11 [.int 7] dX11_expression_99 caX11_is lX11_224 inX11_is slX11_is rfl ly_243 ⟨_, rfl, rfl⟩ rln_243 naX11_is (Nat.le_of_ble_eq_true rfl) (Nat.le_of_ble_eq_true rfl) (by decide) (fun _ hq => wX11_is 7 μ hq) h (fun q10 h => ?_)
    refine rn_ifb_eq 102 145 dX11_expression_102 (by decide) h (fun _ h => ?_) (fun _ h => ?_)
    · exact hK μ h
    · refine rw_aload_n 105 dX11_expression_105 0 rfl ?_
      refine rw_getI 106 11 12 kc11 dX11_expression_106 ly_243 rln_243 fX11_233 rfl ?_
      refine rw_iload_n 109 dX11_expression_109 1 rfl ?_
      refine rn_icmp_le 110 145 dX11_expression_110 (by decide) h (fun _ h => ?_) (fun _ h => ?_)
      · exact hK μ h
      · refine rw_aload_n 113 dX11_expression_113 0 rfl ?_
        refine rw_iconst 114 (v := 0) dX11_expression_114 (by decide) ?_
        refine rn_cVmv 115 11 [.int 0] dX11_expression_115 caX11_comesOut lX11_308 inX11_comesOut slX11_comesOut rfl ly_243 ⟨_, rfl, rfl⟩ rln_243 naX11_comesOut (Nat.le_of_ble_eq_true rfl) (Nat.le_of_ble_eq_true rfl) (by decide) (fun _ hq => wX11_comesOut 0 μ hq) h (fun q11 h => ?_)
        refine rw_aload_n 118 dX11_expression_118 0 rfl ?_
        refine rw_dup 119 dX11_expression_119 rfl ?_
        refine rw_getI 120 11 46 kc11 dX11_expression_120 ly_243 rln_243 fX11_299 rfl ?_
        refine rw_iconst 123 (v := 1) dX11_expression_123 (by decide) ?_
        refine rw_isub 124 dX11_expression_124 ?_
        refine rn_putI 125 11 46 kc11 dX11_expression_125 ly_243 rln_243 fX11_299 (fun q hq => by cases hq; rfl) rfl rfl rfl h (fun μ12 h => ?_)
        refine rw_aload_n 128 dX11_expression_128 0 rfl ?_
        refine rw_dup 129 dX11_expression_129 rfl ?_
        refine rw_getI 130 11 12 kc11 dX11_expression_130 ly_243 rln_243 fX11_233 rfl ?_
        refine rw_iconst 133 (v := 1) dX11_expression_133 (by decide) ?_
        refine rw_isub 134 dX11_expression_134 ?_
        refine rn_putI 135 11 12 kc11 dX11_expression_135 ly_243 rln_243 fX11_233 (fun q hq => by cases hq; rfl) rfl rfl rfl h (fun μ13 h => ?_)
        refine rw_aload_n 138 dX11_expression_138 0 rfl ?_
        refine rn_cVmv 139 11 [] dX11_expression_139 caX11_goesOn lX11_227 inX11_goesOn slX11_goesOn rfl ly_243 ⟨_, rfl, rfl⟩ rln_243 naX11_goesOn (Nat.le_of_ble_eq_true rfl) (Nat.le_of_ble_eq_true rfl) (by decide) (fun _ hq => wX11_goesOn μ13 hq) h (fun q14 h => ?_)
        refine rw_goto 142 96 dX11_expression_142 (by decide) ?_
        exact ih q14 h
set_option maxRecDepth 100000 in
theorem wX11_expression_j234_12   {res : Mem} (v1 : Int32) (v2 : Int32) (s0 : Int32) (μ : Mem) (KB : Int32 → Mem → Option (Mem)) (hB : ∀ (u2 : Int32) (um : Mem), KB u2 um = some res → RW mX11_expression 4 NF NF 12 [(0, .ref 243), (1, .int v1), (2, .int u2)] [] (um, Rf0, NF) (QN none res Rf0 NF)) (K : Mem → Option (Mem)) (hK : ∀ (um : Mem), K um = some res → RW mX11_expression 4 NF NF 272 [] [] (um, Rf0, NF) (QN none res Rf0 NF)) (h : fX11_expression_j234_12 KB K v1 v2 s0 μ = some res) : RW mX11_expression 4 NF NF 234 [(0, .ref 243), (1, .int v1), (2, .int v2)] [.int s0, .ref 243] (μ, Rf0, NF) (QN none res Rf0 NF) := by
  unfold fX11_expression_j234_12 at h
  refine rn_cVmv 234 11 [.int s0] dX11_expression_234 caX11_comesOut lX11_308 inX11_comesOut slX11_comesOut rfl ly_243 ⟨_, rfl, rfl⟩ rln_243 naX11_comesOut (Nat.le_of_ble_eq_true rfl) (Nat.le_of_ble_eq_true rfl) (by decide) (fun _ hq => wX11_comesOut s0 μ hq) h (fun q18 h => ?_)
  refine rw_aload_n 237 dX11_expression_237 0 rfl ?_
  refine rw_getR 238 11 45 kc11 dX11_expression_238 ly_243 rln_243 fX11_107 rfl rf_243_45 ?_
  refine rw_aload_n 241 dX11_expression_241 0 rfl ?_
  refine rw_getI 242 11 46 kc11 dX11_expression_242 ly_243 rln_243 fX11_299 rfl ?_
  refine rw_aload_n 245 dX11_expression_245 0 rfl ?_
  refine rw_getR 246 11 5 kc11 dX11_expression_246 ly_243 rln_243 fX11_20 rfl rf_243_5 ?_
  refine rw_aload_n 249 dX11_expression_249 0 rfl ?_
  refine rw_getI 250 11 11 kc11 dX11_expression_250 ly_243 rln_243 fX11_209 rfl ?_
  refine rn_iald 253 dX11_expression_253 ly_246 rln_246 h (fun h => ?_)
  refine rn_iast 254 dX11_expression_254 ly_273 rln_273 h (fun μ19 h => ?_)
  refine rw_aload_n 255 dX11_expression_255 0 rfl ?_
  refine rw_dup 256 dX11_expression_256 rfl ?_
  refine rw_getI 257 11 46 kc11 dX11_expression_257 ly_243 rln_243 fX11_299 rfl ?_
  refine rw_iconst 260 (v := 1) dX11_expression_260 (by decide) ?_
  refine rw_iadd 261 dX11_expression_261 ?_
  refine rn_putI 262 11 46 kc11 dX11_expression_262 ly_243 rln_243 fX11_299 (fun q hq => by cases hq; rfl) rfl rfl rfl h (fun μ20 h => ?_)
  refine rw_aload_n 265 dX11_expression_265 0 rfl ?_
  refine rn_cVmv 266 11 [] dX11_expression_266 caX11_goesOn lX11_227 inX11_goesOn slX11_goesOn rfl ly_243 ⟨_, rfl, rfl⟩ rln_243 naX11_goesOn (Nat.le_of_ble_eq_true rfl) (Nat.le_of_ble_eq_true rfl) (by decide) (fun _ hq => wX11_goesOn μ20 hq) h (fun q21 h => ?_)
  refine rw_goto 269 12 dX11_expression_269 (by decide) ?_
  exact hB v2 q21 h
set_option maxRecDepth 100000 in
theorem wX11_expression_j186_12   {res : Mem} (v1 : Int32) (s0 : Int32) (μ : Mem) (KB : Int32 → Mem → Option (Mem)) (hB : ∀ (u2 : Int32) (um : Mem), KB u2 um = some res → RW mX11_expression 4 NF NF 12 [(0, .ref 243), (1, .int v1), (2, .int u2)] [] (um, Rf0, NF) (QN none res Rf0 NF)) (K : Mem → Option (Mem)) (hK : ∀ (um : Mem), K um = some res → RW mX11_expression 4 NF NF 272 [] [] (um, Rf0, NF) (QN none res Rf0 NF)) (h : fX11_expression_j186_12 KB K v1 s0 μ = some res) : RW mX11_expression 4 NF NF 186 [(0, .ref 243), (1, .int v1)] [.int s0] (μ, Rf0, NF) (QN none res Rf0 NF) := by
  unfold fX11_expression_j186_12 at h
  refine rw_istore_n 186 [(0, .ref 243), (1, .int v1), (2, .int s0)] dX11_expression_186 (by decide) rfl ?_
  refine rw_iload_n 187 dX11_expression_187 2 rfl ?_
  refine rn_if_ne 188 210 dX11_expression_188 (by decide) h (fun _ h => ?_) (fun _ h => ?_)
  · refine rw_aload_n 210 dX11_expression_210 0 rfl ?_
    refine rw_aload_n 211 dX11_expression_211 0 rfl ?_
    refine rw_bipush 212 (v := 10) dX11_expression_212 (by decide) ?_
    refine rn_cVpb 214 11 [.int 10] dX11_expression_214 caX11_is lX11_224 inX11_is slX11_is rfl ly_243 ⟨_, rfl, rfl⟩ rln_243 naX11_is (Nat.le_of_ble_eq_true rfl) (Nat.le_of_ble_eq_true rfl) (by decide) (fun _ hq => wX11_is 10 μ hq) h (fun q17 h => ?_)
    refine rn_ifb_ne 217 229 dX11_expression_217 (by decide) h (fun _ h => ?_) (fun _ h => ?_)
    · refine rw_iconst 229 (v := 1) dX11_expression_229 (by decide) ?_
      refine rw_goto 230 234 dX11_expression_230 (by decide) ?_
      exact wX11_expression_j234_12 v1 s0 1 μ _ (fun z0 zm h => hB z0 zm h) K hK h
    · refine rw_aload_n 220 dX11_expression_220 0 rfl ?_
      refine rw_bipush 221 (v := 15) dX11_expression_221 (by decide) ?_
      refine rn_cVpb 223 11 [.int 15] dX11_expression_223 caX11_is lX11_224 inX11_is slX11_is rfl ly_243 ⟨_, rfl, rfl⟩ rln_243 naX11_is (Nat.le_of_ble_eq_true rfl) (Nat.le_of_ble_eq_true rfl) (by decide) (fun _ hq => wX11_is 15 μ hq) h (fun q22 h => ?_)
      refine rn_ifb_eq 226 233 dX11_expression_226 (by decide) h (fun _ h => ?_) (fun _ h => ?_)
      · refine rw_iconst 233 (v := 0) dX11_expression_233 (by decide) ?_
        exact wX11_expression_j234_12 v1 s0 0 μ _ (fun z0 zm h => hB z0 zm h) K hK h
      · refine rw_iconst 229 (v := 1) dX11_expression_229 (by decide) ?_
        refine rw_goto 230 234 dX11_expression_230 (by decide) ?_
        exact wX11_expression_j234_12 v1 s0 1 μ _ (fun z0 zm h => hB z0 zm h) K hK h
  · refine rw_aload_n 191 dX11_expression_191 0 rfl ?_
    refine rw_getI 192 11 12 kc11 dX11_expression_192 ly_243 rln_243 fX11_233 rfl ?_
    refine rw_iload_n 195 dX11_expression_195 1 rfl ?_
    refine rn_icmp_le 196 204 dX11_expression_196 (by decide) h (fun _ h => ?_) (fun _ h => ?_)
    · refine rw_aload_n 204 dX11_expression_204 0 rfl ?_
      refine rw_iconst 205 (v := 0) dX11_expression_205 (by decide) ?_
      refine rn_cVmv 206 11 [.int 0] dX11_expression_206 caX11_comesOut lX11_308 inX11_comesOut slX11_comesOut rfl ly_243 ⟨_, rfl, rfl⟩ rln_243 naX11_comesOut (Nat.le_of_ble_eq_true rfl) (Nat.le_of_ble_eq_true rfl) (by decide) (fun _ hq => wX11_comesOut 0 μ hq) h (fun q23 h => ?_)
      exact rn_vret 209 dX11_expression_209 rfl h
    · refine rw_aload_n 199 dX11_expression_199 0 rfl ?_
      refine rw_iconst 200 (v := 1) dX11_expression_200 (by decide) ?_
      refine rn_cVmv 201 11 [.int 1] dX11_expression_201 caX11_fail lX11_221 inX11_fail slX11_fail rfl ly_243 ⟨_, rfl, rfl⟩ rln_243 naX11_fail (Nat.le_of_ble_eq_true rfl) (Nat.le_of_ble_eq_true rfl) (by decide) (fun _ hq => wX11_fail 1 μ hq) h (fun q24 h => ?_)
      refine rw_aload_n 204 dX11_expression_204 0 rfl ?_
      refine rw_iconst 205 (v := 0) dX11_expression_205 (by decide) ?_
      refine rn_cVmv 206 11 [.int 0] dX11_expression_206 caX11_comesOut lX11_308 inX11_comesOut slX11_comesOut rfl ly_243 ⟨_, rfl, rfl⟩ rln_243 naX11_comesOut (Nat.le_of_ble_eq_true rfl) (Nat.le_of_ble_eq_true rfl) (by decide) (fun _ hq => wX11_comesOut 0 q24 hq) h (fun q25 h => ?_)
      exact rn_vret 209 dX11_expression_209 rfl h
set_option maxRecDepth 100000 in
theorem wX11_expression_j145_12   {res : Mem} (v1 : Int32) (μ : Mem) (KB : Int32 → Mem → Option (Mem)) (hB : ∀ (u2 : Int32) (um : Mem), KB u2 um = some res → RW mX11_expression 4 NF NF 12 [(0, .ref 243), (1, .int v1), (2, .int u2)] [] (um, Rf0, NF) (QN none res Rf0 NF)) (K : Mem → Option (Mem)) (hK : ∀ (um : Mem), K um = some res → RW mX11_expression 4 NF NF 272 [] [] (um, Rf0, NF) (QN none res Rf0 NF)) (h : fX11_expression_j145_12 KB K v1 μ = some res) : RW mX11_expression 4 NF NF 145 [(0, .ref 243), (1, .int v1)] [] (μ, Rf0, NF) (QN none res Rf0 NF) := by
  unfold fX11_expression_j145_12 at h
  refine rw_aload_n 145 dX11_expression_145 0 rfl ?_
  refine rw_bipush 146 (v := 8) dX11_expression_146 (by decide) ?_
  refine rn_cVpb 148 11 [.int 8] dX11_expression_148 caX11_is lX11_224 inX11_is slX11_is rfl ly_243 ⟨_, rfl, rfl⟩ rln_243 naX11_is (Nat.le_of_ble_eq_true rfl) (Nat.le_of_ble_eq_true rfl) (by decide) (fun _ hq => wX11_is 8 μ hq) h (fun q16 h => ?_)
  refine rn_ifb_ne 151 181 dX11_expression_151 (by decide) h (fun _ h => ?_) (fun _ h => ?_)
  · refine rw_iconst 181 (v := 1) dX11_expression_181 (by decide) ?_
    refine rw_goto 182 186 dX11_expression_182 (by decide) ?_
    exact wX11_expression_j186_12 v1 1 μ _ (fun z0 zm h => hB z0 zm h) K hK h
  · refine rw_aload_n 154 dX11_expression_154 0 rfl ?_
    refine rw_bipush 155 (v := 9) dX11_expression_155 (by decide) ?_
    refine rn_cVpb 157 11 [.int 9] dX11_expression_157 caX11_is lX11_224 inX11_is slX11_is rfl ly_243 ⟨_, rfl, rfl⟩ rln_243 naX11_is (Nat.le_of_ble_eq_true rfl) (Nat.le_of_ble_eq_true rfl) (by decide) (fun _ hq => wX11_is 9 μ hq) h (fun q26 h => ?_)
    refine rn_ifb_ne 160 181 dX11_expression_160 (by decide) h (fun _ h => ?_) (fun _ h => ?_)
    · refine rw_iconst 181 (v := 1) dX11_expression_181 (by decide) ?_
      refine rw_goto 182 186 dX11_expression_182 (by decide) ?_
      exact wX11_expression_j186_12 v1 1 μ _ (fun z0 zm h => hB z0 zm h) K hK h
    · refine rw_aload_n 163 dX11_expression_163 0 rfl ?_
      refine rw_bipush 164 (v := 10) dX11_expression_164 (by decide) ?_
      refine rn_cVpb 166 11 [.int 10] dX11_expression_166 caX11_is lX11_224 inX11_is slX11_is rfl ly_243 ⟨_, rfl, rfl⟩ rln_243 naX11_is (Nat.le_of_ble_eq_true rfl) (Nat.le_of_ble_eq_true rfl) (by decide) (fun _ hq => wX11_is 10 μ hq) h (fun q27 h => ?_)
      refine rn_ifb_ne 169 181 dX11_expression_169 (by decide) h (fun _ h => ?_) (fun _ h => ?_)
      · refine rw_iconst 181 (v := 1) dX11_expression_181 (by decide) ?_
        refine rw_goto 182 186 dX11_expression_182 (by decide) ?_
        exact wX11_expression_j186_12 v1 1 μ _ (fun z0 zm h => hB z0 zm h) K hK h
      · refine rw_aload_n 172 dX11_expression_172 0 rfl ?_
        refine rw_bipush 173 (v := 15) dX11_expression_173 (by decide) ?_
        refine rn_cVpb 175 11 [.int 15] dX11_expression_175 caX11_is lX11_224 inX11_is slX11_is rfl ly_243 ⟨_, rfl, rfl⟩ rln_243 naX11_is (Nat.le_of_ble_eq_true rfl) (Nat.le_of_ble_eq_true rfl) (by decide) (fun _ hq => wX11_is 15 μ hq) h (fun q28 h => ?_)
        refine rn_ifb_eq 178 185 dX11_expression_178 (by decide) h (fun _ h => ?_) (fun _ h => ?_)
        · refine rw_iconst 185 (v := 0) dX11_expression_185 (by decide) ?_
          exact wX11_expression_j186_12 v1 0 μ _ (fun z0 zm h => hB z0 zm h) K hK h
        · refine rw_iconst 181 (v := 1) dX11_expression_181 (by decide) ?_
          refine rw_goto 182 186 dX11_expression_182 (by decide) ?_
          exact wX11_expression_j186_12 v1 1 μ _ (fun z0 zm h => hB z0 zm h) K hK h
set_option maxRecDepth 100000 in
theorem wX11_expression_12   (v1 : Int32)  (K : Mem → Option (Mem)) {res : Mem} (hK : ∀  (μ : Mem), K μ = some res → RW mX11_expression 4 NF NF 272 [] [] (μ, Rf0, NF) (QN none res Rf0 NF)) : ∀ (n9 : Nat) (v2 : Int32) (μ : Mem), fX11_expression_12 v1 K n9 v2 μ = some res → RW mX11_expression 4 NF NF 12 [(0, .ref 243), (1, .int v1), (2, .int v2)] [] (μ, Rf0, NF) (QN none res Rf0 NF) := by
  intro n9
  induction n9 with
  | zero => intro _ _ h; cases h
  | succ n ih =>
    intro v2 μ h
    unfold fX11_expression_12 at h
    refine rw_iload_n 12 dX11_expression_12 2 rfl ?_
    refine rn_if_eq 13 272 dX11_expression_13 (by decide) h (fun _ h => ?_) (fun _ h => ?_)
    · refine rw_pick 272 [] rfl ?_
      exact hK μ h
    · refine rw_aload_n 16 dX11_expression_16 0 rfl ?_
      refine rw_getI 17 11 13 kc11 dX11_expression_17 ly_243 rln_243 fX11_206 rfl ?_
      refine rn_if_ne 20 272 dX11_expression_20 (by decide) h (fun _ h => ?_) (fun _ h => ?_)
      · refine rw_pick 272 [] rfl ?_
        exact hK μ h
      · refine rw_pick 23 [0, 1] rfl ?_
        refine wX11_expression_23 v1 _ (fun μ8 h => ?_) FU μ h
        refine rw_aload_n 84 dX11_expression_84 0 rfl ?_
        refine rn_cVmv 85 11 [] dX11_expression_85 caX11_unit lX11_305 inX11_unit slX11_unit rfl ly_243 ⟨_, rfl, rfl⟩ rln_243 naX11_unit (Nat.le_of_ble_eq_true rfl) (Nat.le_of_ble_eq_true rfl) (by decide) (fun _ hq => wX11_unit μ8 hq) h (fun q9 h => ?_)
        refine rw_aload_n 88 dX11_expression_88 0 rfl ?_
        refine rw_getI 89 11 13 kc11 dX11_expression_89 ly_243 rln_243 fX11_206 rfl ?_
        refine rn_if_le 92 96 dX11_expression_92 (by decide) h (fun _ h => ?_) (fun _ h => ?_)
        · refine wX11_expression_96 v1 _ (fun μ15 h => ?_) FU q9 h
          exact wX11_expression_j145_12 v1 μ15 _ (fun z0 zm h => ih z0 zm h) K hK h
        · exact rn_vret 95 dX11_expression_95 rfl h
set_option maxRecDepth 100000 in
theorem wX11_expression  (μ : Mem) {res : Mem} (h : fX11_expression  μ = some res) : Ct mX11_expression 4 NF NF [.ref 243] (μ, Rf0, NF) (QN none res Rf0 NF) := by
  unfold fX11_expression at h
  show RW mX11_expression 4 NF NF 0 [(0, .ref 243)] [] (μ, Rf0, NF) (QN none res Rf0 NF)
  refine rw_aload_n 0 dX11_expression_0 0 rfl ?_
  refine rw_iconst 1 (v := 0) dX11_expression_1 (by decide) ?_
  refine rn_putI 2 11 46 kc11 dX11_expression_2 ly_243 rln_243 fX11_299 (fun q hq => by cases hq; rfl) rfl rfl rfl h (fun μ1 h => ?_)
  refine rw_aload_n 5 dX11_expression_5 0 rfl ?_
  refine rw_getI 6 11 12 kc11 dX11_expression_6 ly_243 rln_243 fX11_233 rfl ?_
  refine rw_istore_n 9 [(0, .ref 243), (1, .int (μ1.1 243 12))] dX11_expression_9 (by decide) rfl ?_
  refine rw_iconst 10 (v := 1) dX11_expression_10 (by decide) ?_
  refine rw_istore_n 11 [(0, .ref 243), (1, .int (μ1.1 243 12)), (2, .int 1)] dX11_expression_11 (by decide) rfl ?_
  refine wX11_expression_12 (μ1.1 243 12) _ (fun μ29 h => ?_) FU 1 μ1 h
  exact rn_vret 272 dX11_expression_272 rfl h
def fX11_term  (μ : Mem) : Option (Mem) :=
  if inb (μ.1 243 36) 260 then nm (wI μ 269 (μ.1 243 36).toNatClampNeg (μ.1 243 42)) fun μ1 =>
  if (μ1.1 243 13) = 0 then
    (fX11_expression μ1).bind fun q4 =>
    if inb (q4.1 243 36) 260 then nm (wI q4 270 (q4.1 243 36).toNatClampNeg (q4.1 243 42)) fun μ5 =>
    nm (wI μ5 243 36 ((μ5.1 243 36) + 1)) fun μ6 =>
    some μ6
    else none
  else
    if inb (μ1.1 243 36) 260 then nm (wI μ1 270 (μ1.1 243 36).toNatClampNeg (μ1.1 243 42)) fun μ2 =>
    nm (wI μ2 243 36 ((μ2.1 243 36) + 1)) fun μ3 =>
    some μ3
    else none
  else none
set_option maxRecDepth 100000 in
theorem wX11_term  (μ : Mem) {res : Mem} (h : fX11_term  μ = some res) : Ct mX11_term 5 NF NF [.ref 243] (μ, Rf0, NF) (QN none res Rf0 NF) := by
  unfold fX11_term at h
  show RW mX11_term 5 NF NF 0 [(0, .ref 243)] [] (μ, Rf0, NF) (QN none res Rf0 NF)
  refine rw_aload_n 0 dX11_term_0 0 rfl ?_
  refine rw_getR 1 11 40 kc11 dX11_term_1 ly_243 rln_243 fX11_95 rfl rf_243_40 ?_
  refine rw_aload_n 4 dX11_term_4 0 rfl ?_
  refine rw_getI 5 11 36 kc11 dX11_term_5 ly_243 rln_243 fX11_245 rfl ?_
  refine rw_aload_n 8 dX11_term_8 0 rfl ?_
  refine rw_getI 9 11 42 kc11 dX11_term_9 ly_243 rln_243 fX11_248 rfl ?_
  refine rn_iast 12 dX11_term_12 ly_269 rln_269 h (fun μ1 h => ?_)
  refine rw_aload_n 13 dX11_term_13 0 rfl ?_
  refine rw_getI 14 11 13 kc11 dX11_term_14 ly_243 rln_243 fX11_206 rfl ?_
  refine rn_if_ne 17 24 dX11_term_17 (by decide) h (fun _ h => ?_) (fun _ h => ?_)
  · refine rw_aload_n 24 dX11_term_24 0 rfl ?_
    refine rw_getR 25 11 41 kc11 dX11_term_25 ly_243 rln_243 fX11_98 rfl rf_243_41 ?_
    refine rw_aload_n 28 dX11_term_28 0 rfl ?_
    refine rw_getI 29 11 36 kc11 dX11_term_29 ly_243 rln_243 fX11_245 rfl ?_
    refine rw_aload_n 32 dX11_term_32 0 rfl ?_
    refine rw_getI 33 11 42 kc11 dX11_term_33 ly_243 rln_243 fX11_248 rfl ?_
    refine rn_iast 36 dX11_term_36 ly_270 rln_270 h (fun μ2 h => ?_)
    refine rw_aload_n 37 dX11_term_37 0 rfl ?_
    refine rw_dup 38 dX11_term_38 rfl ?_
    refine rw_getI 39 11 36 kc11 dX11_term_39 ly_243 rln_243 fX11_245 rfl ?_
    refine rw_iconst 42 (v := 1) dX11_term_42 (by decide) ?_
    refine rw_iadd 43 dX11_term_43 ?_
    refine rn_putI 44 11 36 kc11 dX11_term_44 ly_243 rln_243 fX11_245 (fun q hq => by cases hq; rfl) rfl rfl rfl h (fun μ3 h => ?_)
    exact rn_vret 47 dX11_term_47 rfl h
  · refine rw_aload_n 20 dX11_term_20 0 rfl ?_
    refine rn_cVmv 21 11 [] dX11_term_21 caX11_expression lX11_293 inX11_expression slX11_expression rfl ly_243 ⟨_, rfl, rfl⟩ rln_243 naX11_expression (Nat.le_of_ble_eq_true rfl) (Nat.le_of_ble_eq_true rfl) (by decide) (fun _ hq => wX11_expression μ1 hq) h (fun q4 h => ?_)
    refine rw_aload_n 24 dX11_term_24 0 rfl ?_
    refine rw_getR 25 11 41 kc11 dX11_term_25 ly_243 rln_243 fX11_98 rfl rf_243_41 ?_
    refine rw_aload_n 28 dX11_term_28 0 rfl ?_
    refine rw_getI 29 11 36 kc11 dX11_term_29 ly_243 rln_243 fX11_245 rfl ?_
    refine rw_aload_n 32 dX11_term_32 0 rfl ?_
    refine rw_getI 33 11 42 kc11 dX11_term_33 ly_243 rln_243 fX11_248 rfl ?_
    refine rn_iast 36 dX11_term_36 ly_270 rln_270 h (fun μ5 h => ?_)
    refine rw_aload_n 37 dX11_term_37 0 rfl ?_
    refine rw_dup 38 dX11_term_38 rfl ?_
    refine rw_getI 39 11 36 kc11 dX11_term_39 ly_243 rln_243 fX11_245 rfl ?_
    refine rw_iconst 42 (v := 1) dX11_term_42 (by decide) ?_
    refine rw_iadd 43 dX11_term_43 ?_
    refine rn_putI 44 11 36 kc11 dX11_term_44 ly_243 rln_243 fX11_245 (fun q hq => by cases hq; rfl) rfl rfl rfl h (fun μ6 h => ?_)
    exact rn_vret 47 dX11_term_47 rfl h
def fX11_tellLaw_j38_12   (KB : Int32 → Mem → Option (Mem)) (K : Mem → Option (Mem)) (v1 : Int32) (v2 : Int32) (v3 : Int32) (μ : Mem) : Option (Mem) :=
  if 0 < (μ.1 243 13) then
    some μ
  else
    (fX11_goesOn μ).bind fun q3 =>
    if inb (q3.1 243 36) 260 then nm (wI q3 266 (q3.1 243 36).toNatClampNeg (1 &&& 1)) fun μ4 =>
    if inb (μ4.1 243 36) 260 then nm (wI μ4 267 (μ4.1 243 36).toNatClampNeg (μ4.1 243 42)) fun μ5 =>
    (fX11_expression μ5).bind fun q6 =>
    (fX11_must 13 q6).bind fun q7 =>
    if inb (q7.1 243 36) 260 then nm (wI q7 268 (q7.1 243 36).toNatClampNeg (q7.1 243 42)) fun μ8 =>
    if (μ8.1 243 13) = 0 then
      (fX11_expression μ8).bind fun q12 =>
      (fX11_must 30 q12).bind fun q13 =>
      (fX11_term q13).bind fun q14 =>
      (fX11_must 31 q14).bind fun q15 =>
      KB (v3 + 1) q15
    else
      (fX11_must 30 μ8).bind fun q9 =>
      (fX11_term q9).bind fun q10 =>
      (fX11_must 31 q10).bind fun q11 =>
      KB (v3 + 1) q11
    else none
    else none
    else none
def fX11_tellLaw_12   (v1 : Int32) (v2 : Int32)  (K : Mem → Option (Mem)) : Nat → Int32 → Mem → Option (Mem)
  | 0, _, _ => none
  | n + 1, v3, μ =>
    if (μ.1 243 13) = 0 then
      (fX11_is 29 μ).bind fun q2 =>
      if q2 = true then
        if v3 = 4 then
          (fX11_fail 2 μ).bind fun q16 =>
          fX11_tellLaw_j38_12 (fun z0 zm => fX11_tellLaw_12 v1 v2 K n z0 zm) K v1 v2 v3 q16
        else
          fX11_tellLaw_j38_12 (fun z0 zm => fX11_tellLaw_12 v1 v2 K n z0 zm) K v1 v2 v3 μ
      else
        K μ
    else
      K μ
def fX11_tellLaw_j129    (v1 : Int32) (v2 : Int32) (μ : Mem) : Option (Mem) :=
  if inb (μ.1 243 36) 260 then nm (wI μ 266 (μ.1 243 36).toNatClampNeg (0 &&& 1)) fun μ18 =>
  (fX11_term μ18).bind fun q19 =>
  (fX11_must 4 q19).bind fun q20 =>
  if 0 < (q20.1 243 13) then
    some q20
  else
    if inb ((4 * (q20.1 243 19)) + v1) 8 then nm (wI q20 264 ((4 * (q20.1 243 19)) + v1).toNatClampNeg v2) fun μ21 =>
    if inb ((4 * (μ21.1 243 19)) + v1) 8 then nm (wI μ21 265 ((4 * (μ21.1 243 19)) + v1).toNatClampNeg (μ21.1 243 36)) fun μ22 =>
    some μ22
    else none
    else none
  else none
def fX11_tellLaw (a1 : Int32) (μ : Mem) : Option (Mem) :=
  (fX11_must 5 μ).bind fun q1 =>
  fX11_tellLaw_12 a1 (q1.1 243 36) (fun μ17 =>
      fX11_tellLaw_j129 a1 (q1.1 243 36) μ17
  ) FU 0 q1
set_option maxRecDepth 100000 in
theorem wX11_tellLaw_j38_12   {res : Mem} (v1 : Int32) (v2 : Int32) (v3 : Int32) (μ : Mem) (KB : Int32 → Mem → Option (Mem)) (hB : ∀ (u3 : Int32) (um : Mem), KB u3 um = some res → RW mX11_tellLaw 6 NF NF 12 [(0, .ref 243), (1, .int v1), (2, .int v2), (3, .int u3)] [] (um, Rf0, NF) (QN none res Rf0 NF)) (K : Mem → Option (Mem)) (hK : ∀ (um : Mem), K um = some res → RW mX11_tellLaw 6 NF NF 129 [(0, .ref 243), (1, .int v1), (2, .int v2)] [] (um, Rf0, NF) (QN none res Rf0 NF)) (h : fX11_tellLaw_j38_12 KB K v1 v2 v3 μ = some res) : RW mX11_tellLaw 6 NF NF 38 [(0, .ref 243), (1, .int v1), (2, .int v2), (3, .int v3)] [] (μ, Rf0, NF) (QN none res Rf0 NF) := by
  unfold fX11_tellLaw_j38_12 at h
  refine rw_aload_n 38 dX11_tellLaw_38 0 rfl ?_
  refine rw_getI 39 11 13 kc11 dX11_tellLaw_39 ly_243 rln_243 fX11_206 rfl ?_
  refine rn_if_le 42 46 dX11_tellLaw_42 (by decide) h (fun _ h => ?_) (fun _ h => ?_)
  · refine rw_iinc 46 [(0, .ref 243), (1, .int v1), (2, .int v2), (3, .int (v3 + 1))] dX11_tellLaw_46 3 rfl rfl (by decide) rfl ?_
    refine rw_aload_n 49 dX11_tellLaw_49 0 rfl ?_
    refine rn_cVmv 50 11 [] dX11_tellLaw_50 caX11_goesOn lX11_227 inX11_goesOn slX11_goesOn rfl ly_243 ⟨_, rfl, rfl⟩ rln_243 naX11_goesOn (Nat.le_of_ble_eq_true rfl) (Nat.le_of_ble_eq_true rfl) (by decide) (fun _ hq => wX11_goesOn μ hq) h (fun q3 h => ?_)
    refine rw_aload_n 53 dX11_tellLaw_53 0 rfl ?_
    refine rw_getR 54 11 37 kc11 dX11_tellLaw_54 ly_243 rln_243 fX11_85 rfl rf_243_37 ?_
    refine rw_aload_n 57 dX11_tellLaw_57 0 rfl ?_
    refine rw_getI 58 11 36 kc11 dX11_tellLaw_58 ly_243 rln_243 fX11_245 rfl ?_
    refine rw_iconst 61 (v := 1) dX11_tellLaw_61 (by decide) ?_
    refine rn_zast 62 dX11_tellLaw_62 ly_266 rln_266 h (fun μ4 h => ?_)
    refine rw_aload_n 63 dX11_tellLaw_63 0 rfl ?_
    refine rw_getR 64 11 38 kc11 dX11_tellLaw_64 ly_243 rln_243 fX11_89 rfl rf_243_38 ?_
    refine rw_aload_n 67 dX11_tellLaw_67 0 rfl ?_
    refine rw_getI 68 11 36 kc11 dX11_tellLaw_68 ly_243 rln_243 fX11_245 rfl ?_
    refine rw_aload_n 71 dX11_tellLaw_71 0 rfl ?_
    refine rw_getI 72 11 42 kc11 dX11_tellLaw_72 ly_243 rln_243 fX11_248 rfl ?_
    refine rn_iast 75 dX11_tellLaw_75 ly_267 rln_267 h (fun μ5 h => ?_)
    refine rw_aload_n 76 dX11_tellLaw_76 0 rfl ?_
    refine rn_cVmv 77 11 [] dX11_tellLaw_77 caX11_expression lX11_293 inX11_expression slX11_expression rfl ly_243 ⟨_, rfl, rfl⟩ rln_243 naX11_expression (Nat.le_of_ble_eq_true rfl) (Nat.le_of_ble_eq_true rfl) (by decide) (fun _ hq => wX11_expression μ5 hq) h (fun q6 h => ?_)
    refine rw_aload_n 80 dX11_tellLaw_80 0 rfl ?_
    refine rw_bipush 81 (v := 13) dX11_tellLaw_81 (by decide) ?_
    refine rn_cVmv 83 11 [.int 13] dX11_tellLaw_83 caX11_must lX11_264 inX11_must slX11_must rfl ly_243 ⟨_, rfl, rfl⟩ rln_243 naX11_must (Nat.le_of_ble_eq_true rfl) (Nat.le_of_ble_eq_true rfl) (by decide) (fun _ hq => wX11_must 13 q6 hq) h (fun q7 h => ?_)
    refine rw_aload_n 86 dX11_tellLaw_86 0 rfl ?_
    refine rw_getR 87 11 39 kc11 dX11_tellLaw_87 ly_243 rln_243 fX11_92 rfl rf_243_39 ?_
    refine rw_aload_n 90 dX11_tellLaw_90 0 rfl ?_
    refine rw_getI 91 11 36 kc11 dX11_tellLaw_91 ly_243 rln_243 fX11_245 rfl ?_
    refine rw_aload_n 94 dX11_tellLaw_94 0 rfl ?_
    refine rw_getI 95 11 42 kc11 dX11_tellLaw_95 ly_243 rln_243 fX11_248 rfl ?_
    refine rn_iast 98 dX11_tellLaw_98 ly_268 rln_268 h (fun μ8 h => ?_)
    refine rw_aload_n 99 dX11_tellLaw_99 0 rfl ?_
    refine rw_getI 100 11 13 kc11 dX11_tellLaw_100 ly_243 rln_243 fX11_206 rfl ?_
    refine rn_if_ne 103 110 dX11_tellLaw_103 (by decide) h (fun _ h => ?_) (fun _ h => ?_)
    · refine rw_aload_n 110 dX11_tellLaw_110 0 rfl ?_
      refine rw_bipush 111 (v := 30) dX11_tellLaw_111 (by decide) ?_
      refine rn_cVmv 113 11 [.int 30] dX11_tellLaw_113 caX11_must lX11_264 inX11_must slX11_must rfl ly_243 ⟨_, rfl, rfl⟩ rln_243 naX11_must (Nat.le_of_ble_eq_true rfl) (Nat.le_of_ble_eq_true rfl) (by decide) (fun _ hq => wX11_must 30 μ8 hq) h (fun q9 h => ?_)
      refine rw_aload_n 116 dX11_tellLaw_116 0 rfl ?_
      refine rn_cVmv 117 11 [] dX11_tellLaw_117 caX11_term lX11_296 inX11_term slX11_term rfl ly_243 ⟨_, rfl, rfl⟩ rln_243 naX11_term (Nat.le_of_ble_eq_true rfl) (Nat.le_of_ble_eq_true rfl) (by decide) (fun _ hq => wX11_term q9 hq) h (fun q10 h => ?_)
      refine rw_aload_n 120 dX11_tellLaw_120 0 rfl ?_
      refine rw_bipush 121 (v := 31) dX11_tellLaw_121 (by decide) ?_
      refine rn_cVmv 123 11 [.int 31] dX11_tellLaw_123 caX11_must lX11_264 inX11_must slX11_must rfl ly_243 ⟨_, rfl, rfl⟩ rln_243 naX11_must (Nat.le_of_ble_eq_true rfl) (Nat.le_of_ble_eq_true rfl) (by decide) (fun _ hq => wX11_must 31 q10 hq) h (fun q11 h => ?_)
      refine rw_goto 126 12 dX11_tellLaw_126 (by decide) ?_
      exact hB (v3 + 1) q11 h
    · refine rw_aload_n 106 dX11_tellLaw_106 0 rfl ?_
      refine rn_cVmv 107 11 [] dX11_tellLaw_107 caX11_expression lX11_293 inX11_expression slX11_expression rfl ly_243 ⟨_, rfl, rfl⟩ rln_243 naX11_expression (Nat.le_of_ble_eq_true rfl) (Nat.le_of_ble_eq_true rfl) (by decide) (fun _ hq => wX11_expression μ8 hq) h (fun q12 h => ?_)
      refine rw_aload_n 110 dX11_tellLaw_110 0 rfl ?_
      refine rw_bipush 111 (v := 30) dX11_tellLaw_111 (by decide) ?_
      refine rn_cVmv 113 11 [.int 30] dX11_tellLaw_113 caX11_must lX11_264 inX11_must slX11_must rfl ly_243 ⟨_, rfl, rfl⟩ rln_243 naX11_must (Nat.le_of_ble_eq_true rfl) (Nat.le_of_ble_eq_true rfl) (by decide) (fun _ hq => wX11_must 30 q12 hq) h (fun q13 h => ?_)
      refine rw_aload_n 116 dX11_tellLaw_116 0 rfl ?_
      refine rn_cVmv 117 11 [] dX11_tellLaw_117 caX11_term lX11_296 inX11_term slX11_term rfl ly_243 ⟨_, rfl, rfl⟩ rln_243 naX11_term (Nat.le_of_ble_eq_true rfl) (Nat.le_of_ble_eq_true rfl) (by decide) (fun _ hq => wX11_term q13 hq) h (fun q14 h => ?_)
      refine rw_aload_n 120 dX11_tellLaw_120 0 rfl ?_
      refine rw_bipush 121 (v := 31) dX11_tellLaw_121 (by decide) ?_
      refine rn_cVmv 123 11 [.int 31] dX11_tellLaw_123 caX11_must lX11_264 inX11_must slX11_must rfl ly_243 ⟨_, rfl, rfl⟩ rln_243 naX11_must (Nat.le_of_ble_eq_true rfl) (Nat.le_of_ble_eq_true rfl) (by decide) (fun _ hq => wX11_must 31 q14 hq) h (fun q15 h => ?_)
      refine rw_goto 126 12 dX11_tellLaw_126 (by decide) ?_
      exact hB (v3 + 1) q15 h
  · exact rn_vret 45 dX11_tellLaw_45 rfl h
set_option maxRecDepth 100000 in
theorem wX11_tellLaw_12   (v1 : Int32) (v2 : Int32)  (K : Mem → Option (Mem)) {res : Mem} (hK : ∀  (μ : Mem), K μ = some res → RW mX11_tellLaw 6 NF NF 129 [(0, .ref 243), (1, .int v1), (2, .int v2)] [] (μ, Rf0, NF) (QN none res Rf0 NF)) : ∀ (n9 : Nat) (v3 : Int32) (μ : Mem), fX11_tellLaw_12 v1 v2 K n9 v3 μ = some res → RW mX11_tellLaw 6 NF NF 12 [(0, .ref 243), (1, .int v1), (2, .int v2), (3, .int v3)] [] (μ, Rf0, NF) (QN none res Rf0 NF) := by
  intro n9
  induction n9 with
  | zero => intro _ _ h; cases h
  | succ n ih =>
    intro v3 μ h
    unfold fX11_tellLaw_12 at h
    refine rw_aload_n 12 dX11_tellLaw_12 0 rfl ?_
    refine rw_getI 13 11 13 kc11 dX11_tellLaw_13 ly_243 rln_243 fX11_206 rfl ?_
    refine rn_if_ne 16 129 dX11_tellLaw_16 (by decide) h (fun _ h => ?_) (fun _ h => ?_)
    · refine rw_pick 129 [0, 1, 2] rfl ?_
      exact hK μ h
    · refine rw_aload_n 19 dX11_tellLaw_19 0 rfl ?_
      refine rw_bipush 20 (v := 29) dX11_tellLaw_20 (by decide) ?_
      refine rn_cVpb 22 11 [.int 29] dX11_tellLaw_22 caX11_is lX11_224 inX11_is slX11_is rfl ly_243 ⟨_, rfl, rfl⟩ rln_243 naX11_is (Nat.le_of_ble_eq_true rfl) (Nat.le_of_ble_eq_true rfl) (by decide) (fun _ hq => wX11_is 29 μ hq) h (fun q2 h => ?_)
      refine rn_ifb_eq 25 129 dX11_tellLaw_25 (by decide) h (fun _ h => ?_) (fun _ h => ?_)
      · refine rw_pick 129 [0, 1, 2] rfl ?_
        exact hK μ h
      · refine rw_iload_n 28 dX11_tellLaw_28 3 rfl ?_
        refine rw_iconst 29 (v := 4) dX11_tellLaw_29 (by decide) ?_
        refine rn_icmp_ne 30 38 dX11_tellLaw_30 (by decide) h (fun _ h => ?_) (fun _ h => ?_)
        · exact wX11_tellLaw_j38_12 v1 v2 v3 μ _ (fun z0 zm h => ih z0 zm h) K hK h
        · refine rw_aload_n 33 dX11_tellLaw_33 0 rfl ?_
          refine rw_iconst 34 (v := 2) dX11_tellLaw_34 (by decide) ?_
          refine rn_cVmv 35 11 [.int 2] dX11_tellLaw_35 caX11_fail lX11_221 inX11_fail slX11_fail rfl ly_243 ⟨_, rfl, rfl⟩ rln_243 naX11_fail (Nat.le_of_ble_eq_true rfl) (Nat.le_of_ble_eq_true rfl) (by decide) (fun _ hq => wX11_fail 2 μ hq) h (fun q16 h => ?_)
          exact wX11_tellLaw_j38_12 v1 v2 v3 q16 _ (fun z0 zm h => ih z0 zm h) K hK h
set_option maxRecDepth 100000 in
theorem wX11_tellLaw_j129   {res : Mem} (v1 : Int32) (v2 : Int32) (μ : Mem)  (h : fX11_tellLaw_j129 v1 v2 μ = some res) : RW mX11_tellLaw 6 NF NF 129 [(0, .ref 243), (1, .int v1), (2, .int v2)] [] (μ, Rf0, NF) (QN none res Rf0 NF) := by
  unfold fX11_tellLaw_j129 at h
  refine rw_aload_n 129 dX11_tellLaw_129 0 rfl ?_
  refine rw_getR 130 11 37 kc11 dX11_tellLaw_130 ly_243 rln_243 fX11_85 rfl rf_243_37 ?_
  refine rw_aload_n 133 dX11_tellLaw_133 0 rfl ?_
  refine rw_getI 134 11 36 kc11 dX11_tellLaw_134 ly_243 rln_243 fX11_245 rfl ?_
  refine rw_iconst 137 (v := 0) dX11_tellLaw_137 (by decide) ?_
  refine rn_zast 138 dX11_tellLaw_138 ly_266 rln_266 h (fun μ18 h => ?_)
  refine rw_aload_n 139 dX11_tellLaw_139 0 rfl ?_
  refine rn_cVmv 140 11 [] dX11_tellLaw_140 caX11_term lX11_296 inX11_term slX11_term rfl ly_243 ⟨_, rfl, rfl⟩ rln_243 naX11_term (Nat.le_of_ble_eq_true rfl) (Nat.le_of_ble_eq_true rfl) (by decide) (fun _ hq => wX11_term μ18 hq) h (fun q19 h => ?_)
  refine rw_aload_n 143 dX11_tellLaw_143 0 rfl ?_
  refine rw_iconst 144 (v := 4) dX11_tellLaw_144 (by decide) ?_
  refine rn_cVmv 145 11 [.int 4] dX11_tellLaw_145 caX11_must lX11_264 inX11_must slX11_must rfl ly_243 ⟨_, rfl, rfl⟩ rln_243 naX11_must (Nat.le_of_ble_eq_true rfl) (Nat.le_of_ble_eq_true rfl) (by decide) (fun _ hq => wX11_must 4 q19 hq) h (fun q20 h => ?_)
  refine rw_aload_n 148 dX11_tellLaw_148 0 rfl ?_
  refine rw_getI 149 11 13 kc11 dX11_tellLaw_149 ly_243 rln_243 fX11_206 rfl ?_
  refine rn_if_le 152 156 dX11_tellLaw_152 (by decide) h (fun _ h => ?_) (fun _ h => ?_)
  · refine rw_aload_n 156 dX11_tellLaw_156 0 rfl ?_
    refine rw_getR 157 11 34 kc11 dX11_tellLaw_157 ly_243 rln_243 fX11_79 rfl rf_243_34 ?_
    refine rw_iconst 160 (v := 4) dX11_tellLaw_160 (by decide) ?_
    refine rw_aload_n 161 dX11_tellLaw_161 0 rfl ?_
    refine rw_getI 162 11 19 kc11 dX11_tellLaw_162 ly_243 rln_243 fX11_239 rfl ?_
    refine rw_imul 165 dX11_tellLaw_165 ?_
    refine rw_iload_n 166 dX11_tellLaw_166 1 rfl ?_
    refine rw_iadd 167 dX11_tellLaw_167 ?_
    refine rw_iload_n 168 dX11_tellLaw_168 2 rfl ?_
    refine rn_iast 169 dX11_tellLaw_169 ly_264 rln_264 h (fun μ21 h => ?_)
    refine rw_aload_n 170 dX11_tellLaw_170 0 rfl ?_
    refine rw_getR 171 11 35 kc11 dX11_tellLaw_171 ly_243 rln_243 fX11_82 rfl rf_243_35 ?_
    refine rw_iconst 174 (v := 4) dX11_tellLaw_174 (by decide) ?_
    refine rw_aload_n 175 dX11_tellLaw_175 0 rfl ?_
    refine rw_getI 176 11 19 kc11 dX11_tellLaw_176 ly_243 rln_243 fX11_239 rfl ?_
    refine rw_imul 179 dX11_tellLaw_179 ?_
    refine rw_iload_n 180 dX11_tellLaw_180 1 rfl ?_
    refine rw_iadd 181 dX11_tellLaw_181 ?_
    refine rw_aload_n 182 dX11_tellLaw_182 0 rfl ?_
    refine rw_getI 183 11 36 kc11 dX11_tellLaw_183 ly_243 rln_243 fX11_245 rfl ?_
    refine rn_iast 186 dX11_tellLaw_186 ly_265 rln_265 h (fun μ22 h => ?_)
    exact rn_vret 187 dX11_tellLaw_187 rfl h
  · exact rn_vret 155 dX11_tellLaw_155 rfl h
set_option maxRecDepth 100000 in
theorem wX11_tellLaw (a1 : Int32) (μ : Mem) {res : Mem} (h : fX11_tellLaw a1 μ = some res) : Ct mX11_tellLaw 6 NF NF [.ref 243, .int a1] (μ, Rf0, NF) (QN none res Rf0 NF) := by
  unfold fX11_tellLaw at h
  show RW mX11_tellLaw 6 NF NF 0 [(0, .ref 243), (1, .int a1)] [] (μ, Rf0, NF) (QN none res Rf0 NF)
  refine rw_aload_n 0 dX11_tellLaw_0 0 rfl ?_
  refine rw_iconst 1 (v := 5) dX11_tellLaw_1 (by decide) ?_
  refine rn_cVmv 2 11 [.int 5] dX11_tellLaw_2 caX11_must lX11_264 inX11_must slX11_must rfl ly_243 ⟨_, rfl, rfl⟩ rln_243 naX11_must (Nat.le_of_ble_eq_true rfl) (Nat.le_of_ble_eq_true rfl) (by decide) (fun _ hq => wX11_must 5 μ hq) h (fun q1 h => ?_)
  refine rw_aload_n 5 dX11_tellLaw_5 0 rfl ?_
  refine rw_getI 6 11 36 kc11 dX11_tellLaw_6 ly_243 rln_243 fX11_245 rfl ?_
  refine rw_istore_n 9 [(0, .ref 243), (1, .int a1), (2, .int (q1.1 243 36))] dX11_tellLaw_9 (by decide) rfl ?_
  refine rw_iconst 10 (v := 0) dX11_tellLaw_10 (by decide) ?_
  refine rw_istore_n 11 [(0, .ref 243), (1, .int a1), (2, .int (q1.1 243 36)), (3, .int 0)] dX11_tellLaw_11 (by decide) rfl ?_
  refine wX11_tellLaw_12 a1 (q1.1 243 36) _ (fun μ17 h => ?_) FU 0 q1 h
  exact wX11_tellLaw_j129 a1 (q1.1 243 36) μ17 h
def fX11_tellOne_j392    (v1 : Int32) (μ : Mem) : Option (Mem) :=
  (fX11_fail 1 μ).bind fun q33 =>
  if 0 < (q33.1 243 13) then
    some q33
  else
    (fX11_goesOn q33).bind fun q34 =>
    (fX11_tellLaw v1 q34).bind fun q35 =>
    some q35
def fX11_tellOne  (μ : Mem) : Option (Mem) :=
  if inb (μ.1 243 11) 403 then
  if (μ.1 246 (μ.1 243 11).toNatClampNeg) = 20 then
    if inb (μ.1 243 19) 2 then
    (fX11_roomFor (μ.1 253 (μ.1 243 19).toNatClampNeg) 4 μ).bind fun q2 =>
    if 0 < (q2.1 243 13) then
      some q2
    else
      if inb (q2.1 243 19) 2 then
      nm ((4 * (q2.1 243 19)) + (q2.1 253 (q2.1 243 19).toNatClampNeg)) fun x3 =>
      (fX11_named q2).bind fun q4 =>
      (fX11_bounded 1 24 q4.2).bind fun q5 =>
      if inb x3 8 then nm (wI q5.2 254 x3.toNatClampNeg q5.1) fun μ6 =>
      (fX11_bounded 0 99 μ6).bind fun q7 =>
      if inb x3 8 then nm (wI q7.2 255 x3.toNatClampNeg q7.1) fun μ8 =>
      if inb (μ8.1 243 19) 2 then
      (fX11_endsName q4.1 (μ8.1 253 (μ8.1 243 19).toNatClampNeg) μ8).bind fun q9 =>
      if (q9.1 243 13) = 0 then
        if inb (q9.1 243 19) 2 then
        if inb (q9.1 243 19) 2 then nm (wI q9 253 (q9.1 243 19).toNatClampNeg ((q9.1 253 (q9.1 243 19).toNatClampNeg) + 1)) fun μ10 =>
        some μ10
        else none
        else none
      else
        some q9
      else none
      else none
      else none
      else none
    else none
  else
  if (μ.1 246 (μ.1 243 11).toNatClampNeg) = 21 then
    if inb (μ.1 243 19) 2 then
    (fX11_roomFor (μ.1 256 (μ.1 243 19).toNatClampNeg) 7 μ).bind fun q12 =>
    if 0 < (q12.1 243 13) then
      some q12
    else
      if inb (q12.1 243 19) 2 then
      nm ((7 * (q12.1 243 19)) + (q12.1 256 (q12.1 243 19).toNatClampNeg)) fun x13 =>
      (fX11_named q12).bind fun q14 =>
      (fX11_bounded 0 23 q14.2).bind fun q15 =>
      if inb x13 14 then nm (wI q15.2 257 x13.toNatClampNeg q15.1) fun μ16 =>
      (fX11_bounded 1 12 μ16).bind fun q17 =>
      if inb x13 14 then nm (wI q17.2 258 x13.toNatClampNeg q17.1) fun μ18 =>
      (fX11_bounded 0 99 μ18).bind fun q19 =>
      if inb x13 14 then nm (wI q19.2 259 x13.toNatClampNeg q19.1) fun μ20 =>
      if inb (μ20.1 243 19) 2 then
      (fX11_endsName q14.1 (10 + (μ20.1 256 (μ20.1 243 19).toNatClampNeg)) μ20).bind fun q21 =>
      if (q21.1 243 13) = 0 then
        if inb (q21.1 243 19) 2 then
        if inb (q21.1 243 19) 2 then nm (wI q21 256 (q21.1 243 19).toNatClampNeg ((q21.1 256 (q21.1 243 19).toNatClampNeg) + 1)) fun μ22 =>
        some μ22
        else none
        else none
      else
        some q21
      else none
      else none
      else none
      else none
      else none
    else none
  else
  if (μ.1 246 (μ.1 243 11).toNatClampNeg) = 22 then
    if inb (μ.1 243 19) 2 then
    (fX11_roomFor (μ.1 261 (μ.1 243 19).toNatClampNeg) 8 μ).bind fun q24 =>
    if (q24.1 243 13) = 0 then
      (fX11_tellFoes q24).bind fun q25 =>
      some q25
    else
      some q24
    else none
  else
  if (μ.1 246 (μ.1 243 11).toNatClampNeg) = 27 then
    (fX11_toldInt 1 999 μ).bind fun q27 =>
    if inb (μ.1 243 19) 2 then nm (wI q27.2 262 (μ.1 243 19).toNatClampNeg q27.1) fun μ28 =>
    some μ28
    else none
  else
  if (μ.1 246 (μ.1 243 11).toNatClampNeg) = 28 then
    (fX11_toldInt 0 9999 μ).bind fun q30 =>
    if inb (μ.1 243 19) 2 then nm (wI q30.2 263 (μ.1 243 19).toNatClampNeg q30.1) fun μ31 =>
    some μ31
    else none
  else
    if inb (μ.1 243 11) 403 then
    nm ((μ.1 246 (μ.1 243 11).toNatClampNeg) - 23) fun x32 =>
    if x32 < 0 then
      fX11_tellOne_j392 x32 μ
    else
      if inb (μ.1 243 11) 403 then
      if 26 < (μ.1 246 (μ.1 243 11).toNatClampNeg) then
        fX11_tellOne_j392 x32 μ
      else
        if 0 < (μ.1 243 13) then
          some μ
        else
          (fX11_goesOn μ).bind fun q36 =>
          (fX11_tellLaw x32 q36).bind fun q37 =>
          some q37
      else none
    else none
  else none
set_option maxRecDepth 100000 in
theorem wX11_tellOne_j392   {res : Mem} (v1 : Int32) (μ : Mem)  (h : fX11_tellOne_j392 v1 μ = some res) : RW mX11_tellOne 7 NF NF 392 [(0, .ref 243), (1, .int v1)] [] (μ, Rf0, NF) (QN none res Rf0 NF) := by
  unfold fX11_tellOne_j392 at h
  refine rw_aload_n 392 dX11_tellOne_392 0 rfl ?_
  refine rw_iconst 393 (v := 1) dX11_tellOne_393 (by decide) ?_
  refine rn_cVmv 394 11 [.int 1] dX11_tellOne_394 caX11_fail lX11_221 inX11_fail slX11_fail rfl ly_243 ⟨_, rfl, rfl⟩ rln_243 naX11_fail (Nat.le_of_ble_eq_true rfl) (Nat.le_of_ble_eq_true rfl) (by decide) (fun _ hq => wX11_fail 1 μ hq) h (fun q33 h => ?_)
  refine rw_aload_n 397 dX11_tellOne_397 0 rfl ?_
  refine rw_getI 398 11 13 kc11 dX11_tellOne_398 ly_243 rln_243 fX11_206 rfl ?_
  refine rn_if_le 401 405 dX11_tellOne_401 (by decide) h (fun _ h => ?_) (fun _ h => ?_)
  · refine rw_aload_n 405 dX11_tellOne_405 0 rfl ?_
    refine rn_cVmv 406 11 [] dX11_tellOne_406 caX11_goesOn lX11_227 inX11_goesOn slX11_goesOn rfl ly_243 ⟨_, rfl, rfl⟩ rln_243 naX11_goesOn (Nat.le_of_ble_eq_true rfl) (Nat.le_of_ble_eq_true rfl) (by decide) (fun _ hq => wX11_goesOn q33 hq) h (fun q34 h => ?_)
    refine rw_aload_n 409 dX11_tellOne_409 0 rfl ?_
    refine rw_iload_n 410 dX11_tellOne_410 1 rfl ?_
    refine rn_cVmv 411 11 [.int v1] dX11_tellOne_411 caX11_tellLaw lX11_284 inX11_tellLaw slX11_tellLaw rfl ly_243 ⟨_, rfl, rfl⟩ rln_243 naX11_tellLaw (Nat.le_of_ble_eq_true rfl) (Nat.le_of_ble_eq_true rfl) (by decide) (fun _ hq => wX11_tellLaw v1 q34 hq) h (fun q35 h => ?_)
    exact rn_vret 414 dX11_tellOne_414 rfl h
  · exact rn_vret 404 dX11_tellOne_404 rfl h
set_option maxRecDepth 100000 in
theorem wX11_tellOne  (μ : Mem) {res : Mem} (h : fX11_tellOne  μ = some res) : Ct mX11_tellOne 7 NF NF [.ref 243] (μ, Rf0, NF) (QN none res Rf0 NF) := by
  unfold fX11_tellOne at h
  show RW mX11_tellOne 7 NF NF 0 [(0, .ref 243)] [] (μ, Rf0, NF) (QN none res Rf0 NF)
  refine rw_aload_n 0 dX11_tellOne_0 0 rfl ?_
  refine rw_getR 1 11 5 kc11 dX11_tellOne_1 ly_243 rln_243 fX11_20 rfl rf_243_5 ?_
  refine rw_aload_n 4 dX11_tellOne_4 0 rfl ?_
  refine rw_getI 5 11 11 kc11 dX11_tellOne_5 ly_243 rln_243 fX11_209 rfl ?_
  refine rn_iald 8 dX11_tellOne_8 ly_246 rln_246 h (fun h => ?_)
  rcases if_b h with ⟨c1, h⟩ | ⟨c1, h⟩
  · refine rn_tab 9 20 60 dX11_tellOne_9 c1 (by decide) (by decide) rfl (by decide) ?_
    refine rw_aload_n 60 dX11_tellOne_60 0 rfl ?_
    refine rw_aload_n 61 dX11_tellOne_61 0 rfl ?_
    refine rw_getR 62 11 23 kc11 dX11_tellOne_62 ly_243 rln_243 fX11_46 rfl rf_243_23 ?_
    refine rw_aload_n 65 dX11_tellOne_65 0 rfl ?_
    refine rw_getI 66 11 19 kc11 dX11_tellOne_66 ly_243 rln_243 fX11_239 rfl ?_
    refine rn_iald 69 dX11_tellOne_69 ly_253 rln_253 h (fun h => ?_)
    refine rw_iconst 70 (v := 4) dX11_tellOne_70 (by decide) ?_
    refine rn_cVmv 71 11 [.int (μ.1 253 (μ.1 243 19).toNatClampNeg), .int 4] dX11_tellOne_71 caX11_roomFor lX11_267 inX11_roomFor slX11_roomFor rfl ly_243 ⟨_, rfl, rfl⟩ rln_243 naX11_roomFor (Nat.le_of_ble_eq_true rfl) (Nat.le_of_ble_eq_true rfl) (by decide) (fun _ hq => wX11_roomFor (μ.1 253 (μ.1 243 19).toNatClampNeg) 4 μ hq) h (fun q2 h => ?_)
    refine rw_aload_n 74 dX11_tellOne_74 0 rfl ?_
    refine rw_getI 75 11 13 kc11 dX11_tellOne_75 ly_243 rln_243 fX11_206 rfl ?_
    refine rn_if_le 78 82 dX11_tellOne_78 (by decide) h (fun _ h => ?_) (fun _ h => ?_)
    · refine rw_iconst 82 (v := 4) dX11_tellOne_82 (by decide) ?_
      refine rw_aload_n 83 dX11_tellOne_83 0 rfl ?_
      refine rw_getI 84 11 19 kc11 dX11_tellOne_84 ly_243 rln_243 fX11_239 rfl ?_
      refine rw_imul 87 dX11_tellOne_87 ?_
      refine rw_aload_n 88 dX11_tellOne_88 0 rfl ?_
      refine rw_getR 89 11 23 kc11 dX11_tellOne_89 ly_243 rln_243 fX11_46 rfl rf_243_23 ?_
      refine rw_aload_n 92 dX11_tellOne_92 0 rfl ?_
      refine rw_getI 93 11 19 kc11 dX11_tellOne_93 ly_243 rln_243 fX11_239 rfl ?_
      refine rn_iald 96 dX11_tellOne_96 ly_253 rln_253 h (fun h => ?_)
      refine rw_iadd 97 dX11_tellOne_97 ?_
      refine rn_ist_n 98 (fun x3 => [(0, .ref 243), (1, .int x3)]) dX11_tellOne_98 (by decide) (fun _ => rfl) h (fun x3 h => ?_)
      refine rw_aload_n 99 dX11_tellOne_99 0 rfl ?_
      refine rn_cVmi 100 11 [] dX11_tellOne_100 caX11_named lX11_271 inX11_named slX11_named rfl ly_243 ⟨_, rfl, rfl⟩ rln_243 naX11_named (Nat.le_of_ble_eq_true rfl) (Nat.le_of_ble_eq_true rfl) (by decide) (fun _ hq => wX11_named q2 hq) h (fun q4 h => ?_)
      refine rw_istore_n 103 [(0, .ref 243), (1, .int x3), (2, .int q4.1)] dX11_tellOne_103 (by decide) rfl ?_
      refine rw_aload_n 104 dX11_tellOne_104 0 rfl ?_
      refine rw_getR 105 11 24 kc11 dX11_tellOne_105 ly_243 rln_243 fX11_49 rfl rf_243_24 ?_
      refine rw_iload_n 108 dX11_tellOne_108 1 rfl ?_
      refine rw_aload_n 109 dX11_tellOne_109 0 rfl ?_
      refine rw_iconst 110 (v := 1) dX11_tellOne_110 (by decide) ?_
      refine rw_bipush 111 (v := 24) dX11_tellOne_111 (by decide) ?_
      refine rn_cVmi 113 11 [.int 1, .int 24] dX11_tellOne_113 caX11_bounded lX11_260 inX11_bounded slX11_bounded rfl ly_243 ⟨_, rfl, rfl⟩ rln_243 naX11_bounded (Nat.le_of_ble_eq_true rfl) (Nat.le_of_ble_eq_true rfl) (by decide) (fun _ hq => wX11_bounded 1 24 q4.2 hq) h (fun q5 h => ?_)
      refine rn_iast 116 dX11_tellOne_116 ly_254 rln_254 h (fun μ6 h => ?_)
      refine rw_aload_n 117 dX11_tellOne_117 0 rfl ?_
      refine rw_getR 118 11 25 kc11 dX11_tellOne_118 ly_243 rln_243 fX11_52 rfl rf_243_25 ?_
      refine rw_iload_n 121 dX11_tellOne_121 1 rfl ?_
      refine rw_aload_n 122 dX11_tellOne_122 0 rfl ?_
      refine rw_iconst 123 (v := 0) dX11_tellOne_123 (by decide) ?_
      refine rw_bipush 124 (v := 99) dX11_tellOne_124 (by decide) ?_
      refine rn_cVmi 126 11 [.int 0, .int 99] dX11_tellOne_126 caX11_bounded lX11_260 inX11_bounded slX11_bounded rfl ly_243 ⟨_, rfl, rfl⟩ rln_243 naX11_bounded (Nat.le_of_ble_eq_true rfl) (Nat.le_of_ble_eq_true rfl) (by decide) (fun _ hq => wX11_bounded 0 99 μ6 hq) h (fun q7 h => ?_)
      refine rn_iast 129 dX11_tellOne_129 ly_255 rln_255 h (fun μ8 h => ?_)
      refine rw_aload_n 130 dX11_tellOne_130 0 rfl ?_
      refine rw_iload_n 131 dX11_tellOne_131 2 rfl ?_
      refine rw_aload_n 132 dX11_tellOne_132 0 rfl ?_
      refine rw_getR 133 11 23 kc11 dX11_tellOne_133 ly_243 rln_243 fX11_46 rfl rf_243_23 ?_
      refine rw_aload_n 136 dX11_tellOne_136 0 rfl ?_
      refine rw_getI 137 11 19 kc11 dX11_tellOne_137 ly_243 rln_243 fX11_239 rfl ?_
      refine rn_iald 140 dX11_tellOne_140 ly_253 rln_253 h (fun h => ?_)
      refine rn_cVmv 141 11 [.int q4.1, .int (μ8.1 253 (μ8.1 243 19).toNatClampNeg)] dX11_tellOne_141 caX11_endsName lX11_275 inX11_endsName slX11_endsName rfl ly_243 ⟨_, rfl, rfl⟩ rln_243 naX11_endsName (Nat.le_of_ble_eq_true rfl) (Nat.le_of_ble_eq_true rfl) (by decide) (fun _ hq => wX11_endsName q4.1 (μ8.1 253 (μ8.1 243 19).toNatClampNeg) μ8 hq) h (fun q9 h => ?_)
      refine rw_aload_n 144 dX11_tellOne_144 0 rfl ?_
      refine rw_getI 145 11 13 kc11 dX11_tellOne_145 ly_243 rln_243 fX11_206 rfl ?_
      refine rn_if_ne 148 414 dX11_tellOne_148 (by decide) h (fun _ h => ?_) (fun _ h => ?_)
      · exact rn_vret 414 dX11_tellOne_414 rfl h
      · refine rw_aload_n 151 dX11_tellOne_151 0 rfl ?_
        refine rw_getR 152 11 23 kc11 dX11_tellOne_152 ly_243 rln_243 fX11_46 rfl rf_243_23 ?_
        refine rw_aload_n 155 dX11_tellOne_155 0 rfl ?_
        refine rw_getI 156 11 19 kc11 dX11_tellOne_156 ly_243 rln_243 fX11_239 rfl ?_
        refine rw_dup2 159 dX11_tellOne_159 rfl rfl ?_
        refine rn_iald 160 dX11_tellOne_160 ly_253 rln_253 h (fun h => ?_)
        refine rw_iconst 161 (v := 1) dX11_tellOne_161 (by decide) ?_
        refine rw_iadd 162 dX11_tellOne_162 ?_
        refine rn_iast 163 dX11_tellOne_163 ly_253 rln_253 h (fun μ10 h => ?_)
        refine rw_goto 164 414 dX11_tellOne_164 (by decide) ?_
        exact rn_vret 414 dX11_tellOne_414 rfl h
    · exact rn_vret 81 dX11_tellOne_81 rfl h
  · rcases if_b h with ⟨c11, h⟩ | ⟨c11, h⟩
    · refine rn_tab 9 21 167 dX11_tellOne_9 c11 (by decide) (by decide) rfl (by decide) ?_
      refine rw_aload_n 167 dX11_tellOne_167 0 rfl ?_
      refine rw_aload_n 168 dX11_tellOne_168 0 rfl ?_
      refine rw_getR 169 11 26 kc11 dX11_tellOne_169 ly_243 rln_243 fX11_55 rfl rf_243_26 ?_
      refine rw_aload_n 172 dX11_tellOne_172 0 rfl ?_
      refine rw_getI 173 11 19 kc11 dX11_tellOne_173 ly_243 rln_243 fX11_239 rfl ?_
      refine rn_iald 176 dX11_tellOne_176 ly_256 rln_256 h (fun h => ?_)
      refine rw_bipush 177 (v := 7) dX11_tellOne_177 (by decide) ?_
      refine rn_cVmv 179 11 [.int (μ.1 256 (μ.1 243 19).toNatClampNeg), .int 7] dX11_tellOne_179 caX11_roomFor lX11_267 inX11_roomFor slX11_roomFor rfl ly_243 ⟨_, rfl, rfl⟩ rln_243 naX11_roomFor (Nat.le_of_ble_eq_true rfl) (Nat.le_of_ble_eq_true rfl) (by decide) (fun _ hq => wX11_roomFor (μ.1 256 (μ.1 243 19).toNatClampNeg) 7 μ hq) h (fun q12 h => ?_)
      refine rw_aload_n 182 dX11_tellOne_182 0 rfl ?_
      refine rw_getI 183 11 13 kc11 dX11_tellOne_183 ly_243 rln_243 fX11_206 rfl ?_
      refine rn_if_le 186 190 dX11_tellOne_186 (by decide) h (fun _ h => ?_) (fun _ h => ?_)
      · refine rw_bipush 190 (v := 7) dX11_tellOne_190 (by decide) ?_
        refine rw_aload_n 192 dX11_tellOne_192 0 rfl ?_
        refine rw_getI 193 11 19 kc11 dX11_tellOne_193 ly_243 rln_243 fX11_239 rfl ?_
        refine rw_imul 196 dX11_tellOne_196 ?_
        refine rw_aload_n 197 dX11_tellOne_197 0 rfl ?_
        refine rw_getR 198 11 26 kc11 dX11_tellOne_198 ly_243 rln_243 fX11_55 rfl rf_243_26 ?_
        refine rw_aload_n 201 dX11_tellOne_201 0 rfl ?_
        refine rw_getI 202 11 19 kc11 dX11_tellOne_202 ly_243 rln_243 fX11_239 rfl ?_
        refine rn_iald 205 dX11_tellOne_205 ly_256 rln_256 h (fun h => ?_)
        refine rw_iadd 206 dX11_tellOne_206 ?_
        refine rn_ist_n 207 (fun x13 => [(0, .ref 243), (1, .int x13)]) dX11_tellOne_207 (by decide) (fun _ => rfl) h (fun x13 h => ?_)
        refine rw_aload_n 208 dX11_tellOne_208 0 rfl ?_
        refine rn_cVmi 209 11 [] dX11_tellOne_209 caX11_named lX11_271 inX11_named slX11_named rfl ly_243 ⟨_, rfl, rfl⟩ rln_243 naX11_named (Nat.le_of_ble_eq_true rfl) (Nat.le_of_ble_eq_true rfl) (by decide) (fun _ hq => wX11_named q12 hq) h (fun q14 h => ?_)
        refine rw_istore_n 212 [(0, .ref 243), (1, .int x13), (2, .int q14.1)] dX11_tellOne_212 (by decide) rfl ?_
        refine rw_aload_n 213 dX11_tellOne_213 0 rfl ?_
        refine rw_getR 214 11 27 kc11 dX11_tellOne_214 ly_243 rln_243 fX11_58 rfl rf_243_27 ?_
        refine rw_iload_n 217 dX11_tellOne_217 1 rfl ?_
        refine rw_aload_n 218 dX11_tellOne_218 0 rfl ?_
        refine rw_iconst 219 (v := 0) dX11_tellOne_219 (by decide) ?_
        refine rw_bipush 220 (v := 23) dX11_tellOne_220 (by decide) ?_
        refine rn_cVmi 222 11 [.int 0, .int 23] dX11_tellOne_222 caX11_bounded lX11_260 inX11_bounded slX11_bounded rfl ly_243 ⟨_, rfl, rfl⟩ rln_243 naX11_bounded (Nat.le_of_ble_eq_true rfl) (Nat.le_of_ble_eq_true rfl) (by decide) (fun _ hq => wX11_bounded 0 23 q14.2 hq) h (fun q15 h => ?_)
        refine rn_iast 225 dX11_tellOne_225 ly_257 rln_257 h (fun μ16 h => ?_)
        refine rw_aload_n 226 dX11_tellOne_226 0 rfl ?_
        refine rw_getR 227 11 28 kc11 dX11_tellOne_227 ly_243 rln_243 fX11_61 rfl rf_243_28 ?_
        refine rw_iload_n 230 dX11_tellOne_230 1 rfl ?_
        refine rw_aload_n 231 dX11_tellOne_231 0 rfl ?_
        refine rw_iconst 232 (v := 1) dX11_tellOne_232 (by decide) ?_
        refine rw_bipush 233 (v := 12) dX11_tellOne_233 (by decide) ?_
        refine rn_cVmi 235 11 [.int 1, .int 12] dX11_tellOne_235 caX11_bounded lX11_260 inX11_bounded slX11_bounded rfl ly_243 ⟨_, rfl, rfl⟩ rln_243 naX11_bounded (Nat.le_of_ble_eq_true rfl) (Nat.le_of_ble_eq_true rfl) (by decide) (fun _ hq => wX11_bounded 1 12 μ16 hq) h (fun q17 h => ?_)
        refine rn_iast 238 dX11_tellOne_238 ly_258 rln_258 h (fun μ18 h => ?_)
        refine rw_aload_n 239 dX11_tellOne_239 0 rfl ?_
        refine rw_getR 240 11 29 kc11 dX11_tellOne_240 ly_243 rln_243 fX11_64 rfl rf_243_29 ?_
        refine rw_iload_n 243 dX11_tellOne_243 1 rfl ?_
        refine rw_aload_n 244 dX11_tellOne_244 0 rfl ?_
        refine rw_iconst 245 (v := 0) dX11_tellOne_245 (by decide) ?_
        refine rw_bipush 246 (v := 99) dX11_tellOne_246 (by decide) ?_
        refine rn_cVmi 248 11 [.int 0, .int 99] dX11_tellOne_248 caX11_bounded lX11_260 inX11_bounded slX11_bounded rfl ly_243 ⟨_, rfl, rfl⟩ rln_243 naX11_bounded (Nat.le_of_ble_eq_true rfl) (Nat.le_of_ble_eq_true rfl) (by decide) (fun _ hq => wX11_bounded 0 99 μ18 hq) h (fun q19 h => ?_)
        refine rn_iast 251 dX11_tellOne_251 ly_259 rln_259 h (fun μ20 h => ?_)
        refine rw_aload_n 252 dX11_tellOne_252 0 rfl ?_
        refine rw_iload_n 253 dX11_tellOne_253 2 rfl ?_
        refine rw_bipush 254 (v := 10) dX11_tellOne_254 (by decide) ?_
        refine rw_aload_n 256 dX11_tellOne_256 0 rfl ?_
        refine rw_getR 257 11 26 kc11 dX11_tellOne_257 ly_243 rln_243 fX11_55 rfl rf_243_26 ?_
        refine rw_aload_n 260 dX11_tellOne_260 0 rfl ?_
        refine rw_getI 261 11 19 kc11 dX11_tellOne_261 ly_243 rln_243 fX11_239 rfl ?_
        refine rn_iald 264 dX11_tellOne_264 ly_256 rln_256 h (fun h => ?_)
        refine rw_iadd 265 dX11_tellOne_265 ?_
        refine rn_cVmv 266 11 [.int q14.1, .int (10 + (μ20.1 256 (μ20.1 243 19).toNatClampNeg))] dX11_tellOne_266 caX11_endsName lX11_275 inX11_endsName slX11_endsName rfl ly_243 ⟨_, rfl, rfl⟩ rln_243 naX11_endsName (Nat.le_of_ble_eq_true rfl) (Nat.le_of_ble_eq_true rfl) (by decide) (fun _ hq => wX11_endsName q14.1 (10 + (μ20.1 256 (μ20.1 243 19).toNatClampNeg)) μ20 hq) h (fun q21 h => ?_)
        refine rw_aload_n 269 dX11_tellOne_269 0 rfl ?_
        refine rw_getI 270 11 13 kc11 dX11_tellOne_270 ly_243 rln_243 fX11_206 rfl ?_
        refine rn_if_ne 273 414 dX11_tellOne_273 (by decide) h (fun _ h => ?_) (fun _ h => ?_)
        · exact rn_vret 414 dX11_tellOne_414 rfl h
        · refine rw_aload_n 276 dX11_tellOne_276 0 rfl ?_
          refine rw_getR 277 11 26 kc11 dX11_tellOne_277 ly_243 rln_243 fX11_55 rfl rf_243_26 ?_
          refine rw_aload_n 280 dX11_tellOne_280 0 rfl ?_
          refine rw_getI 281 11 19 kc11 dX11_tellOne_281 ly_243 rln_243 fX11_239 rfl ?_
          refine rw_dup2 284 dX11_tellOne_284 rfl rfl ?_
          refine rn_iald 285 dX11_tellOne_285 ly_256 rln_256 h (fun h => ?_)
          refine rw_iconst 286 (v := 1) dX11_tellOne_286 (by decide) ?_
          refine rw_iadd 287 dX11_tellOne_287 ?_
          refine rn_iast 288 dX11_tellOne_288 ly_256 rln_256 h (fun μ22 h => ?_)
          refine rw_goto 289 414 dX11_tellOne_289 (by decide) ?_
          exact rn_vret 414 dX11_tellOne_414 rfl h
      · exact rn_vret 189 dX11_tellOne_189 rfl h
    · rcases if_b h with ⟨c23, h⟩ | ⟨c23, h⟩
      · refine rn_tab 9 22 292 dX11_tellOne_9 c23 (by decide) (by decide) rfl (by decide) ?_
        refine rw_aload_n 292 dX11_tellOne_292 0 rfl ?_
        refine rw_aload_n 293 dX11_tellOne_293 0 rfl ?_
        refine rw_getR 294 11 31 kc11 dX11_tellOne_294 ly_243 rln_243 fX11_70 rfl rf_243_31 ?_
        refine rw_aload_n 297 dX11_tellOne_297 0 rfl ?_
        refine rw_getI 298 11 19 kc11 dX11_tellOne_298 ly_243 rln_243 fX11_239 rfl ?_
        refine rn_iald 301 dX11_tellOne_301 ly_261 rln_261 h (fun h => ?_)
        refine rw_bipush 302 (v := 8) dX11_tellOne_302 (by decide) ?_
        refine rn_cVmv 304 11 [.int (μ.1 261 (μ.1 243 19).toNatClampNeg), .int 8] dX11_tellOne_304 caX11_roomFor lX11_267 inX11_roomFor slX11_roomFor rfl ly_243 ⟨_, rfl, rfl⟩ rln_243 naX11_roomFor (Nat.le_of_ble_eq_true rfl) (Nat.le_of_ble_eq_true rfl) (by decide) (fun _ hq => wX11_roomFor (μ.1 261 (μ.1 243 19).toNatClampNeg) 8 μ hq) h (fun q24 h => ?_)
        refine rw_aload_n 307 dX11_tellOne_307 0 rfl ?_
        refine rw_getI 308 11 13 kc11 dX11_tellOne_308 ly_243 rln_243 fX11_206 rfl ?_
        refine rn_if_ne 311 414 dX11_tellOne_311 (by decide) h (fun _ h => ?_) (fun _ h => ?_)
        · exact rn_vret 414 dX11_tellOne_414 rfl h
        · refine rw_aload_n 314 dX11_tellOne_314 0 rfl ?_
          refine rn_cVmv 315 11 [] dX11_tellOne_315 caX11_tellFoes lX11_278 inX11_tellFoes slX11_tellFoes rfl ly_243 ⟨_, rfl, rfl⟩ rln_243 naX11_tellFoes (Nat.le_of_ble_eq_true rfl) (Nat.le_of_ble_eq_true rfl) (by decide) (fun _ hq => wX11_tellFoes q24 hq) h (fun q25 h => ?_)
          refine rw_goto 318 414 dX11_tellOne_318 (by decide) ?_
          exact rn_vret 414 dX11_tellOne_414 rfl h
      · rcases if_b h with ⟨c26, h⟩ | ⟨c26, h⟩
        · refine rn_tab 9 27 321 dX11_tellOne_9 c26 (by decide) (by decide) rfl (by decide) ?_
          refine rw_aload_n 321 dX11_tellOne_321 0 rfl ?_
          refine rw_getR 322 11 32 kc11 dX11_tellOne_322 ly_243 rln_243 fX11_73 rfl rf_243_32 ?_
          refine rw_aload_n 325 dX11_tellOne_325 0 rfl ?_
          refine rw_getI 326 11 19 kc11 dX11_tellOne_326 ly_243 rln_243 fX11_239 rfl ?_
          refine rw_aload_n 329 dX11_tellOne_329 0 rfl ?_
          refine rw_iconst 330 (v := 1) dX11_tellOne_330 (by decide) ?_
          refine rw_sipush 331 (v := 999) dX11_tellOne_331 (by decide) ?_
          refine rn_cVmi 334 11 [.int 1, .int 999] dX11_tellOne_334 caX11_toldInt lX11_281 inX11_toldInt slX11_toldInt rfl ly_243 ⟨_, rfl, rfl⟩ rln_243 naX11_toldInt (Nat.le_of_ble_eq_true rfl) (Nat.le_of_ble_eq_true rfl) (by decide) (fun _ hq => wX11_toldInt 1 999 μ hq) h (fun q27 h => ?_)
          refine rn_iast 337 dX11_tellOne_337 ly_262 rln_262 h (fun μ28 h => ?_)
          refine rw_goto 338 414 dX11_tellOne_338 (by decide) ?_
          exact rn_vret 414 dX11_tellOne_414 rfl h
        · rcases if_b h with ⟨c29, h⟩ | ⟨c29, h⟩
          · refine rn_tab 9 28 341 dX11_tellOne_9 c29 (by decide) (by decide) rfl (by decide) ?_
            refine rw_aload_n 341 dX11_tellOne_341 0 rfl ?_
            refine rw_getR 342 11 33 kc11 dX11_tellOne_342 ly_243 rln_243 fX11_76 rfl rf_243_33 ?_
            refine rw_aload_n 345 dX11_tellOne_345 0 rfl ?_
            refine rw_getI 346 11 19 kc11 dX11_tellOne_346 ly_243 rln_243 fX11_239 rfl ?_
            refine rw_aload_n 349 dX11_tellOne_349 0 rfl ?_
            refine rw_iconst 350 (v := 0) dX11_tellOne_350 (by decide) ?_
            refine rw_sipush 351 (v := 9999) dX11_tellOne_351 (by decide) ?_
            refine rn_cVmi 354 11 [.int 0, .int 9999] dX11_tellOne_354 caX11_toldInt lX11_281 inX11_toldInt slX11_toldInt rfl ly_243 ⟨_, rfl, rfl⟩ rln_243 naX11_toldInt (Nat.le_of_ble_eq_true rfl) (Nat.le_of_ble_eq_true rfl) (by decide) (fun _ hq => wX11_toldInt 0 9999 μ hq) h (fun q30 h => ?_)
            refine rn_iast 357 dX11_tellOne_357 ly_263 rln_263 h (fun μ31 h => ?_)
            refine rw_goto 358 414 dX11_tellOne_358 (by decide) ?_
            exact rn_vret 414 dX11_tellOne_414 rfl h
          · have kk : RW mX11_tellOne 7 NF NF 361 [(0, .ref 243)] [] (μ, Rf0, NF) (QN none res Rf0 NF) := by
              refine rw_aload_n 361 dX11_tellOne_361 0 rfl ?_
              refine rw_getR 362 11 5 kc11 dX11_tellOne_362 ly_243 rln_243 fX11_20 rfl rf_243_5 ?_
              refine rw_aload_n 365 dX11_tellOne_365 0 rfl ?_
              refine rw_getI 366 11 11 kc11 dX11_tellOne_366 ly_243 rln_243 fX11_209 rfl ?_
              refine rn_iald 369 dX11_tellOne_369 ly_246 rln_246 h (fun h => ?_)
              refine rw_bipush 370 (v := 23) dX11_tellOne_370 (by decide) ?_
              refine rw_isub 372 dX11_tellOne_372 ?_
              refine rn_ist_n 373 (fun x32 => [(0, .ref 243), (1, .int x32)]) dX11_tellOne_373 (by decide) (fun _ => rfl) h (fun x32 h => ?_)
              refine rw_iload_n 374 dX11_tellOne_374 1 rfl ?_
              refine rn_if_lt 375 392 dX11_tellOne_375 (by decide) h (fun _ h => ?_) (fun _ h => ?_)
              · exact wX11_tellOne_j392 x32 μ h
              · refine rw_aload_n 378 dX11_tellOne_378 0 rfl ?_
                refine rw_getR 379 11 5 kc11 dX11_tellOne_379 ly_243 rln_243 fX11_20 rfl rf_243_5 ?_
                refine rw_aload_n 382 dX11_tellOne_382 0 rfl ?_
                refine rw_getI 383 11 11 kc11 dX11_tellOne_383 ly_243 rln_243 fX11_209 rfl ?_
                refine rn_iald 386 dX11_tellOne_386 ly_246 rln_246 h (fun h => ?_)
                refine rw_bipush 387 (v := 26) dX11_tellOne_387 (by decide) ?_
                refine rn_icmp_le 389 397 dX11_tellOne_389 (by decide) h (fun _ h => ?_) (fun _ h => ?_)
                · refine rw_aload_n 397 dX11_tellOne_397 0 rfl ?_
                  refine rw_getI 398 11 13 kc11 dX11_tellOne_398 ly_243 rln_243 fX11_206 rfl ?_
                  refine rn_if_le 401 405 dX11_tellOne_401 (by decide) h (fun _ h => ?_) (fun _ h => ?_)
                  · refine rw_aload_n 405 dX11_tellOne_405 0 rfl ?_
                    refine rn_cVmv 406 11 [] dX11_tellOne_406 caX11_goesOn lX11_227 inX11_goesOn slX11_goesOn rfl ly_243 ⟨_, rfl, rfl⟩ rln_243 naX11_goesOn (Nat.le_of_ble_eq_true rfl) (Nat.le_of_ble_eq_true rfl) (by decide) (fun _ hq => wX11_goesOn μ hq) h (fun q36 h => ?_)
                    refine rw_aload_n 409 dX11_tellOne_409 0 rfl ?_
                    refine rw_iload_n 410 dX11_tellOne_410 1 rfl ?_
                    refine rn_cVmv 411 11 [.int x32] dX11_tellOne_411 caX11_tellLaw lX11_284 inX11_tellLaw slX11_tellLaw rfl ly_243 ⟨_, rfl, rfl⟩ rln_243 naX11_tellLaw (Nat.le_of_ble_eq_true rfl) (Nat.le_of_ble_eq_true rfl) (by decide) (fun _ hq => wX11_tellLaw x32 q36 hq) h (fun q37 h => ?_)
                    exact rn_vret 414 dX11_tellOne_414 rfl h
                  · exact rn_vret 404 dX11_tellOne_404 rfl h
                · exact wX11_tellOne_j392 x32 μ h
            by_cases g38 : (μ.1 246 (μ.1 243 11).toNatClampNeg) = 23
            · exact rn_tab 9 23 361 dX11_tellOne_9 g38 (by decide) (by decide) rfl (by decide) kk
            by_cases g39 : (μ.1 246 (μ.1 243 11).toNatClampNeg) = 24
            · exact rn_tab 9 24 361 dX11_tellOne_9 g39 (by decide) (by decide) rfl (by decide) kk
            by_cases g40 : (μ.1 246 (μ.1 243 11).toNatClampNeg) = 25
            · exact rn_tab 9 25 361 dX11_tellOne_9 g40 (by decide) (by decide) rfl (by decide) kk
            by_cases g41 : (μ.1 246 (μ.1 243 11).toNatClampNeg) = 26
            · exact rn_tab 9 26 361 dX11_tellOne_9 g41 (by decide) (by decide) rfl (by decide) kk
            exact rw_tabOut 9 (x := (μ.1 246 (μ.1 243 11).toNatClampNeg)) 361 dX11_tellOne_9 (by have := ne_int c1 (k := 20) (by decide); have := ne_int c11 (k := 21) (by decide); have := ne_int c23 (k := 22) (by decide); have := ne_int g38 (k := 23) (by decide); have := ne_int g39 (k := 24) (by decide); have := ne_int g40 (k := 25) (by decide); have := ne_int g41 (k := 26) (by decide); have := ne_int c26 (k := 27) (by decide); have := ne_int c29 (k := 28) (by decide); omega) (by decide) kk
def fX11_read_10     (K : Mem → Option (Int32 × Mem)) : Nat → Int32 → Mem → Option (Int32 × Mem)
  | 0, _, _ => none
  | n + 1, v1, μ =>
    if v1 < (μ.1 243 4) then
      if inb v1 2000 then
      if inb v1 2000 then nm (wI μ 245 v1.toNatClampNeg (μ.1 244 v1.toNatClampNeg).toInt8.toInt32) fun μ2 =>
      fX11_read_10 K n (v1 + 1) μ2
      else none
      else none
    else
      K μ
def fX11_read_112     (K : Mem → Option (Int32 × Mem)) : Nat → Mem → Option (Int32 × Mem)
  | 0, _ => none
  | n + 1, μ =>
    if (μ.1 243 13) = 0 then
      (fX11_is 0 μ).bind fun q15 =>
      if q15 = true then
        K μ
      else
        (fX11_tellOne μ).bind fun q16 =>
        fX11_read_112 K n q16
    else
      K μ
def fX11_read_219     (K : Mem → Option (Int32 × Mem)) : Nat → Int32 → Mem → Option (Int32 × Mem)
  | 0, _, _ => none
  | n + 1, v1, μ =>
    if v1 < 3 then
      if inb v1 3 then nm (wI μ 287 v1.toNatClampNeg (0 &&& 1)) fun μ24 =>
      fX11_read_219 K n (v1 + 1) μ24
      else none
    else
      K μ
def fX11_read_j164    (s0 : Int32) (μ : Mem) : Option (Int32 × Mem) :=
  nm (wI μ 243 17 s0) fun μ18 =>
  if 0 < (μ18.1 243 13) then
    some ((μ18.1 243 13), μ18)
  else
    if 0 < (μ18.1 243 15) then
      some ((μ18.1 243 15), μ18)
    else
      nm (wI μ18 243 18 (μ18.1 243 19)) fun μ19 =>
      (fX11_begins μ19).bind fun q20 =>
      (fX11_keepsRow q20).bind fun q21 =>
      nm (wI q21 243 56 0) fun μ22 =>
      nm (wI μ22 243 62 0) fun μ23 =>
      fX11_read_219  (fun μ25 =>
          some (0, μ25)
      ) FU 0 μ23
def fX11_read  (μ : Mem) : Option (Int32 × Mem) :=
  nm (wI μ 243 4 (μ.1 243 2)) fun μ1 =>
  fX11_read_10  (fun μ3 =>
      nm (wI μ3 243 2 0) fun μ4 =>
      (fX11_cut μ4).bind fun q5 =>
      nm (wI q5 243 11 0) fun μ6 =>
      nm (wI μ6 243 12 0) fun μ7 =>
      nm (wI μ7 243 13 0) fun μ8 =>
      nm (wI μ8 243 15 0) fun μ9 =>
      nm (wI μ9 243 19 (1 - (μ9.1 243 18))) fun μ10 =>
      nm (wI μ10 243 20 0) fun μ11 =>
      (fX11_plain (μ11.1 243 19) μ11).bind fun q12 =>
      nm (wI q12 243 36 (130 * (q12.1 243 19))) fun μ13 =>
      nm (wI μ13 243 42 (420 * (μ13.1 243 19))) fun μ14 =>
      fX11_read_112  (fun μ17 =>
          if 0 < (μ17.1 243 13) then
            fX11_read_j164 (μ17.1 243 14) μ17
          else
            if 0 < (μ17.1 243 15) then
              fX11_read_j164 (μ17.1 243 16) μ17
            else
              fX11_read_j164 (-1) μ17
      ) FU μ14
  ) FU 0 μ1
set_option maxRecDepth 100000 in
theorem wX11_read_10     (K : Mem → Option (Int32 × Mem)) {res : Int32 × Mem} (hK : ∀  (μ : Mem), K μ = some res → RW mX11_read 8 NF NF 36 [(0, .ref 243)] [] (μ, Rf0, NF) (QN (some (.int res.1)) res.2 Rf0 NF)) : ∀ (n9 : Nat) (v1 : Int32) (μ : Mem), fX11_read_10 K n9 v1 μ = some res → RW mX11_read 8 NF NF 10 [(0, .ref 243), (1, .int v1)] [] (μ, Rf0, NF) (QN (some (.int res.1)) res.2 Rf0 NF) := by
  intro n9
  induction n9 with
  | zero => intro _ _ h; cases h
  | succ n ih =>
    intro v1 μ h
    unfold fX11_read_10 at h
    refine rw_iload_n 10 dX11_read_10 1 rfl ?_
    refine rw_aload_n 11 dX11_read_11 0 rfl ?_
    refine rw_getI 12 11 4 kc11 dX11_read_12 ly_243 rln_243 fX11_175 rfl ?_
    refine rn_icmp_ge 15 36 dX11_read_15 (by decide) h (fun _ h => ?_) (fun _ h => ?_)
    · refine rw_pick 36 [0] rfl ?_
      exact hK μ h
    · refine rw_aload_n 18 dX11_read_18 0 rfl ?_
      refine rw_getR 19 11 3 kc11 dX11_read_19 ly_243 rln_243 fX11_17 rfl rf_243_3 ?_
      refine rw_iload_n 22 dX11_read_22 1 rfl ?_
      refine rw_aload_n 23 dX11_read_23 0 rfl ?_
      refine rw_getR 24 11 1 kc11 dX11_read_24 ly_243 rln_243 fX11_13 rfl rf_243_1 ?_
      refine rw_iload_n 27 dX11_read_27 1 rfl ?_
      refine rn_bald 28 dX11_read_28 ly_244 rln_244 h (fun h => ?_)
      refine rn_bast 29 dX11_read_29 ly_245 rln_245 h (fun μ2 h => ?_)
      refine rw_iinc 30 [(0, .ref 243), (1, .int (v1 + 1))] dX11_read_30 1 rfl rfl (by decide) rfl ?_
      refine rw_goto 33 10 dX11_read_33 (by decide) ?_
      exact ih (v1 + 1) μ2 h
set_option maxRecDepth 100000 in
theorem wX11_read_112     (K : Mem → Option (Int32 × Mem)) {res : Int32 × Mem} (hK : ∀  (μ : Mem), K μ = some res → RW mX11_read 8 NF NF 134 [(0, .ref 243)] [] (μ, Rf0, NF) (QN (some (.int res.1)) res.2 Rf0 NF)) : ∀ (n9 : Nat)  (μ : Mem), fX11_read_112 K n9 μ = some res → RW mX11_read 8 NF NF 112 [(0, .ref 243)] [] (μ, Rf0, NF) (QN (some (.int res.1)) res.2 Rf0 NF) := by
  intro n9
  induction n9 with
  | zero => intro _ h; cases h
  | succ n ih =>
    intro μ h
    unfold fX11_read_112 at h
    refine rw_aload_n 112 dX11_read_112 0 rfl ?_
    refine rw_getI 113 11 13 kc11 dX11_read_113 ly_243 rln_243 fX11_206 rfl ?_
    refine rn_if_ne 116 134 dX11_read_116 (by decide) h (fun _ h => ?_) (fun _ h => ?_)
    · exact hK μ h
    · refine rw_aload_n 119 dX11_read_119 0 rfl ?_
      refine rw_iconst 120 (v := 0) dX11_read_120 (by decide) ?_
      refine rn_cVpb 121 11 [.int 0] dX11_read_121 caX11_is lX11_224 inX11_is slX11_is rfl ly_243 ⟨_, rfl, rfl⟩ rln_243 naX11_is (Nat.le_of_ble_eq_true rfl) (Nat.le_of_ble_eq_true rfl) (by decide) (fun _ hq => wX11_is 0 μ hq) h (fun q15 h => ?_)
      refine rn_ifb_ne 124 134 dX11_read_124 (by decide) h (fun _ h => ?_) (fun _ h => ?_)
      · exact hK μ h
      · refine rw_aload_n 127 dX11_read_127 0 rfl ?_
        refine rn_cVmv 128 11 [] dX11_read_128 caX11_tellOne lX11_251 inX11_tellOne slX11_tellOne rfl ly_243 ⟨_, rfl, rfl⟩ rln_243 naX11_tellOne (Nat.le_of_ble_eq_true rfl) (Nat.le_of_ble_eq_true rfl) (by decide) (fun _ hq => wX11_tellOne μ hq) h (fun q16 h => ?_)
        refine rw_goto 131 112 dX11_read_131 (by decide) ?_
        exact ih q16 h
set_option maxRecDepth 100000 in
theorem wX11_read_219     (K : Mem → Option (Int32 × Mem)) {res : Int32 × Mem} (hK : ∀  (μ : Mem), K μ = some res → RW mX11_read 8 NF NF 237 [] [] (μ, Rf0, NF) (QN (some (.int res.1)) res.2 Rf0 NF)) : ∀ (n9 : Nat) (v1 : Int32) (μ : Mem), fX11_read_219 K n9 v1 μ = some res → RW mX11_read 8 NF NF 219 [(0, .ref 243), (1, .int v1)] [] (μ, Rf0, NF) (QN (some (.int res.1)) res.2 Rf0 NF) := by
  intro n9
  induction n9 with
  | zero => intro _ _ h; cases h
  | succ n ih =>
    intro v1 μ h
    unfold fX11_read_219 at h
    refine rw_iload_n 219 dX11_read_219 1 rfl ?_
    refine rw_iconst 220 (v := 3) dX11_read_220 (by decide) ?_
    refine rn_icmp_ge 221 237 dX11_read_221 (by decide) h (fun _ h => ?_) (fun _ h => ?_)
    · refine rw_pick 237 [] rfl ?_
      exact hK μ h
    · refine rw_aload_n 224 dX11_read_224 0 rfl ?_
      refine rw_getR 225 11 65 kc11 dX11_read_225 ly_243 rln_243 fX11_149 rfl rf_243_65 ?_
      refine rw_iload_n 228 dX11_read_228 1 rfl ?_
      refine rw_iconst 229 (v := 0) dX11_read_229 (by decide) ?_
      refine rn_zast 230 dX11_read_230 ly_287 rln_287 h (fun μ24 h => ?_)
      refine rw_iinc 231 [(0, .ref 243), (1, .int (v1 + 1))] dX11_read_231 1 rfl rfl (by decide) rfl ?_
      refine rw_goto 234 219 dX11_read_234 (by decide) ?_
      exact ih (v1 + 1) μ24 h
set_option maxRecDepth 100000 in
theorem wX11_read_j164   {res : Int32 × Mem} (s0 : Int32) (μ : Mem)  (h : fX11_read_j164 s0 μ = some res) : RW mX11_read 8 NF NF 164 [(0, .ref 243)] [.int s0, .ref 243] (μ, Rf0, NF) (QN (some (.int res.1)) res.2 Rf0 NF) := by
  unfold fX11_read_j164 at h
  refine rn_putI 164 11 17 kc11 dX11_read_164 ly_243 rln_243 fX11_37 (fun q hq => by cases hq; rfl) rfl rfl rfl h (fun μ18 h => ?_)
  refine rw_aload_n 167 dX11_read_167 0 rfl ?_
  refine rw_getI 168 11 13 kc11 dX11_read_168 ly_243 rln_243 fX11_206 rfl ?_
  refine rn_if_le 171 179 dX11_read_171 (by decide) h (fun _ h => ?_) (fun _ h => ?_)
  · refine rw_aload_n 179 dX11_read_179 0 rfl ?_
    refine rw_getI 180 11 15 kc11 dX11_read_180 ly_243 rln_243 fX11_215 rfl ?_
    refine rn_if_le 183 191 dX11_read_183 (by decide) h (fun _ h => ?_) (fun _ h => ?_)
    · refine rw_aload_n 191 dX11_read_191 0 rfl ?_
      refine rw_aload_n 192 dX11_read_192 0 rfl ?_
      refine rw_getI 193 11 19 kc11 dX11_read_193 ly_243 rln_243 fX11_239 rfl ?_
      refine rn_putI 196 11 18 kc11 dX11_read_196 ly_243 rln_243 fX11_236 (fun q hq => by cases hq; rfl) rfl rfl rfl h (fun μ19 h => ?_)
      refine rw_aload_n 199 dX11_read_199 0 rfl ?_
      refine rn_cVmv 200 11 [] dX11_read_200 caX11_begins lX11_163 inX11_begins slX11_begins rfl ly_243 ⟨_, rfl, rfl⟩ rln_243 naX11_begins (Nat.le_of_ble_eq_true rfl) (Nat.le_of_ble_eq_true rfl) (by decide) (fun _ hq => wX11_begins μ19 hq) h (fun q20 h => ?_)
      refine rw_aload_n 203 dX11_read_203 0 rfl ?_
      refine rn_cVmv 204 11 [] dX11_read_204 caX11_keepsRow lX11_166 inX11_keepsRow slX11_keepsRow rfl ly_243 ⟨_, rfl, rfl⟩ rln_243 naX11_keepsRow (Nat.le_of_ble_eq_true rfl) (Nat.le_of_ble_eq_true rfl) (by decide) (fun _ hq => wX11_keepsRow q20 hq) h (fun q21 h => ?_)
      refine rw_aload_n 207 dX11_read_207 0 rfl ?_
      refine rw_iconst 208 (v := 0) dX11_read_208 (by decide) ?_
      refine rn_putI 209 11 56 kc11 dX11_read_209 ly_243 rln_243 fX11_254 (fun q hq => by cases hq; rfl) rfl rfl rfl h (fun μ22 h => ?_)
      refine rw_aload_n 212 dX11_read_212 0 rfl ?_
      refine rw_iconst 213 (v := 0) dX11_read_213 (by decide) ?_
      refine rn_putI 214 11 62 kc11 dX11_read_214 ly_243 rln_243 fX11_257 (fun q hq => by cases hq; rfl) rfl rfl rfl h (fun μ23 h => ?_)
      refine rw_iconst 217 (v := 0) dX11_read_217 (by decide) ?_
      refine rw_istore_n 218 [(0, .ref 243), (1, .int 0)] dX11_read_218 (by decide) rfl ?_
      refine wX11_read_219 _ (fun μ25 h => ?_) FU 0 μ23 h
      refine rw_iconst 237 (v := 0) dX11_read_237 (by decide) ?_
      exact rn_iret2 238 dX11_read_238 rfl h
    · refine rw_aload_n 186 dX11_read_186 0 rfl ?_
      refine rw_getI 187 11 15 kc11 dX11_read_187 ly_243 rln_243 fX11_215 rfl ?_
      exact rn_iret2 190 dX11_read_190 rfl h
  · refine rw_aload_n 174 dX11_read_174 0 rfl ?_
    refine rw_getI 175 11 13 kc11 dX11_read_175 ly_243 rln_243 fX11_206 rfl ?_
    exact rn_iret2 178 dX11_read_178 rfl h
set_option maxRecDepth 100000 in
theorem wX11_read  (μ : Mem) {res : Int32 × Mem} (h : fX11_read  μ = some res) : Ct mX11_read 8 NF NF [.ref 243] (μ, Rf0, NF) (QN (some (.int res.1)) res.2 Rf0 NF) := by
  unfold fX11_read at h
  show RW mX11_read 8 NF NF 0 [(0, .ref 243)] [] (μ, Rf0, NF) (QN (some (.int res.1)) res.2 Rf0 NF)
  refine rw_aload_n 0 dX11_read_0 0 rfl ?_
  refine rw_aload_n 1 dX11_read_1 0 rfl ?_
  refine rw_getI 2 11 2 kc11 dX11_read_2 ly_243 rln_243 fX11_169 rfl ?_
  refine rn_putI 5 11 4 kc11 dX11_read_5 ly_243 rln_243 fX11_175 (fun q hq => by cases hq; rfl) rfl rfl rfl h (fun μ1 h => ?_)
  refine rw_iconst 8 (v := 0) dX11_read_8 (by decide) ?_
  refine rw_istore_n 9 [(0, .ref 243), (1, .int 0)] dX11_read_9 (by decide) rfl ?_
  refine wX11_read_10 _ (fun μ3 h => ?_) FU 0 μ1 h
  refine rw_aload_n 36 dX11_read_36 0 rfl ?_
  refine rw_iconst 37 (v := 0) dX11_read_37 (by decide) ?_
  refine rn_putI 38 11 2 kc11 dX11_read_38 ly_243 rln_243 fX11_169 (fun q hq => by cases hq; rfl) rfl rfl rfl h (fun μ4 h => ?_)
  refine rw_aload_n 41 dX11_read_41 0 rfl ?_
  refine rn_cVmv 42 11 [] dX11_read_42 caX11_cut lX11_230 inX11_cut slX11_cut rfl ly_243 ⟨_, rfl, rfl⟩ rln_243 naX11_cut (Nat.le_of_ble_eq_true rfl) (Nat.le_of_ble_eq_true rfl) (by decide) (fun _ hq => wX11_cut μ4 hq) h (fun q5 h => ?_)
  refine rw_aload_n 45 dX11_read_45 0 rfl ?_
  refine rw_iconst 46 (v := 0) dX11_read_46 (by decide) ?_
  refine rn_putI 47 11 11 kc11 dX11_read_47 ly_243 rln_243 fX11_209 (fun q hq => by cases hq; rfl) rfl rfl rfl h (fun μ6 h => ?_)
  refine rw_aload_n 50 dX11_read_50 0 rfl ?_
  refine rw_iconst 51 (v := 0) dX11_read_51 (by decide) ?_
  refine rn_putI 52 11 12 kc11 dX11_read_52 ly_243 rln_243 fX11_233 (fun q hq => by cases hq; rfl) rfl rfl rfl h (fun μ7 h => ?_)
  refine rw_aload_n 55 dX11_read_55 0 rfl ?_
  refine rw_iconst 56 (v := 0) dX11_read_56 (by decide) ?_
  refine rn_putI 57 11 13 kc11 dX11_read_57 ly_243 rln_243 fX11_206 (fun q hq => by cases hq; rfl) rfl rfl rfl h (fun μ8 h => ?_)
  refine rw_aload_n 60 dX11_read_60 0 rfl ?_
  refine rw_iconst 61 (v := 0) dX11_read_61 (by decide) ?_
  refine rn_putI 62 11 15 kc11 dX11_read_62 ly_243 rln_243 fX11_215 (fun q hq => by cases hq; rfl) rfl rfl rfl h (fun μ9 h => ?_)
  refine rw_aload_n 65 dX11_read_65 0 rfl ?_
  refine rw_iconst 66 (v := 1) dX11_read_66 (by decide) ?_
  refine rw_aload_n 67 dX11_read_67 0 rfl ?_
  refine rw_getI 68 11 18 kc11 dX11_read_68 ly_243 rln_243 fX11_236 rfl ?_
  refine rw_isub 71 dX11_read_71 ?_
  refine rn_putI 72 11 19 kc11 dX11_read_72 ly_243 rln_243 fX11_239 (fun q hq => by cases hq; rfl) rfl rfl rfl h (fun μ10 h => ?_)
  refine rw_aload_n 75 dX11_read_75 0 rfl ?_
  refine rw_iconst 76 (v := 0) dX11_read_76 (by decide) ?_
  refine rn_putI 77 11 20 kc11 dX11_read_77 ly_243 rln_243 fX11_242 (fun q hq => by cases hq; rfl) rfl rfl rfl h (fun μ11 h => ?_)
  refine rw_aload_n 80 dX11_read_80 0 rfl ?_
  refine rw_aload_n 81 dX11_read_81 0 rfl ?_
  refine rw_getI 82 11 19 kc11 dX11_read_82 ly_243 rln_243 fX11_239 rfl ?_
  refine rn_cVmv 85 11 [.int (μ11.1 243 19)] dX11_read_85 caX11_plain lX11_155 inX11_plain slX11_plain rfl ly_243 ⟨_, rfl, rfl⟩ rln_243 naX11_plain (Nat.le_of_ble_eq_true rfl) (Nat.le_of_ble_eq_true rfl) (by decide) (fun _ hq => wX11_plain (μ11.1 243 19) μ11 hq) h (fun q12 h => ?_)
  refine rw_aload_n 88 dX11_read_88 0 rfl ?_
  refine rw_sipush 89 (v := 130) dX11_read_89 (by decide) ?_
  refine rw_aload_n 92 dX11_read_92 0 rfl ?_
  refine rw_getI 93 11 19 kc11 dX11_read_93 ly_243 rln_243 fX11_239 rfl ?_
  refine rw_imul 96 dX11_read_96 ?_
  refine rn_putI 97 11 36 kc11 dX11_read_97 ly_243 rln_243 fX11_245 (fun q hq => by cases hq; rfl) rfl rfl rfl h (fun μ13 h => ?_)
  refine rw_aload_n 100 dX11_read_100 0 rfl ?_
  refine rw_sipush 101 (v := 420) dX11_read_101 (by decide) ?_
  refine rw_aload_n 104 dX11_read_104 0 rfl ?_
  refine rw_getI 105 11 19 kc11 dX11_read_105 ly_243 rln_243 fX11_239 rfl ?_
  refine rw_imul 108 dX11_read_108 ?_
  refine rn_putI 109 11 42 kc11 dX11_read_109 ly_243 rln_243 fX11_248 (fun q hq => by cases hq; rfl) rfl rfl rfl h (fun μ14 h => ?_)
  refine wX11_read_112 _ (fun μ17 h => ?_) FU μ14 h
  refine rw_aload_n 134 dX11_read_134 0 rfl ?_
  refine rw_aload_n 135 dX11_read_135 0 rfl ?_
  refine rw_getI 136 11 13 kc11 dX11_read_136 ly_243 rln_243 fX11_206 rfl ?_
  refine rn_if_le 139 149 dX11_read_139 (by decide) h (fun _ h => ?_) (fun _ h => ?_)
  · refine rw_aload_n 149 dX11_read_149 0 rfl ?_
    refine rw_getI 150 11 15 kc11 dX11_read_150 ly_243 rln_243 fX11_215 rfl ?_
    refine rn_if_le 153 163 dX11_read_153 (by decide) h (fun _ h => ?_) (fun _ h => ?_)
    · refine rw_iconst 163 (v := -1) dX11_read_163 (by decide) ?_
      exact wX11_read_j164 (-1) μ17 h
    · refine rw_aload_n 156 dX11_read_156 0 rfl ?_
      refine rw_getI 157 11 16 kc11 dX11_read_157 ly_243 rln_243 fX11_218 rfl ?_
      refine rw_goto 160 164 dX11_read_160 (by decide) ?_
      exact wX11_read_j164 (μ17.1 243 16) μ17 h
  · refine rw_aload_n 142 dX11_read_142 0 rfl ?_
    refine rw_getI 143 11 14 kc11 dX11_read_143 ly_243 rln_243 fX11_212 rfl ?_
    refine rw_goto 146 164 dX11_read_146 (by decide) ?_
    exact wX11_read_j164 (μ17.1 243 14) μ17 h
def fX11_place  (μ : Mem) : Option (Int32) :=
  some (μ.1 243 17)
set_option maxRecDepth 100000 in
theorem wX11_place  (μ : Mem) {res : Int32} (h : fX11_place  μ = some res) : Ct mX11_place 1 NF NF [.ref 243] (μ, Rf0, NF) (QN (some (.int res)) μ Rf0 NF) := by
  unfold fX11_place at h
  show RW mX11_place 1 NF NF 0 [(0, .ref 243)] [] (μ, Rf0, NF) (QN (some (.int res)) μ Rf0 NF)
  refine rw_aload_n 0 dX11_place_0 0 rfl ?_
  refine rw_getI 1 11 17 kc11 dX11_place_1 ly_243 rln_243 fX11_37 rfl ?_
  exact rn_iret 4 dX11_place_4 rfl h
def fX11_termOf_j104_5   (KB : Int32 → Int32 → Mem → Option (Int32 × Mem)) (K : Mem → Option (Int32 × Mem)) (v2 : Int32) (v3 : Int32) (v4 : Int32) (v5 : Int32) (v6 : Int32) (v7 : Int32) (μ : Mem) : Option (Int32 × Mem) :=
  if v5 = 2 then
    if inb (v3 - 1) 400 then nm (wI μ 275 (v3 - 1).toNatClampNeg (v6 + v7)) fun μ7 =>
    KB v3 (v4 + 1) μ7
    else none
  else
    if v5 = 3 then
      if inb (v3 - 1) 400 then nm (wI μ 275 (v3 - 1).toNatClampNeg (v6 - v7)) fun μ6 =>
      KB v3 (v4 + 1) μ6
      else none
    else
      if v5 = 4 then
        if inb (v3 - 1) 400 then nm (wI μ 275 (v3 - 1).toNatClampNeg (v6 * v7)) fun μ5 =>
        KB v3 (v4 + 1) μ5
        else none
      else
        if v7 = 0 then none else
        if inb (v3 - 1) 400 then nm (wI μ 275 (v3 - 1).toNatClampNeg (v6 / v7)) fun μ4 =>
        KB v3 (v4 + 1) μ4
        else none
def fX11_termOf_5   (v2 : Int32)  (K : Mem → Option (Int32 × Mem)) : Nat → Int32 → Int32 → Mem → Option (Int32 × Mem)
  | 0, _, _, _ => none
  | n + 1, v3, v4, μ =>
    if v4 < v2 then
      if inb v4 840 then
      nm (μ.1 271 v4.toNatClampNeg) fun x1 =>
      if x1 < 2 then
        if x1 = 0 then
          if inb v4 840 then
          if inb v3 400 then nm (wI μ 275 v3.toNatClampNeg (μ.1 272 v4.toNatClampNeg)) fun μ10 =>
          fX11_termOf_5 v2 K n (v3 + 1) (v4 + 1) μ10
          else none
          else none
        else
          if inb v4 840 then
          if inb (μ.1 272 v4.toNatClampNeg) 9 then
          if inb v3 400 then nm (wI μ 275 v3.toNatClampNeg (μ.1 274 (μ.1 272 v4.toNatClampNeg).toNatClampNeg)) fun μ9 =>
          fX11_termOf_5 v2 K n (v3 + 1) (v4 + 1) μ9
          else none
          else none
          else none
      else
        if inb ((v3 + (-1)) - 1) 400 then
        nm (μ.1 275 ((v3 + (-1)) - 1).toNatClampNeg) fun x2 =>
        if inb (v3 + (-1)) 400 then
        nm (μ.1 275 (v3 + (-1)).toNatClampNeg) fun x3 =>
        if x1 = 5 then
          if x3 = 0 then
            nm (wI μ 243 49 1) fun μ8 =>
            some (0, μ8)
          else
            fX11_termOf_j104_5 (fun z0 z1 zm => fX11_termOf_5 v2 K n z0 z1 zm) K v2 (v3 + (-1)) v4 x1 x2 x3 μ
        else
          fX11_termOf_j104_5 (fun z0 z1 zm => fX11_termOf_5 v2 K n z0 z1 zm) K v2 (v3 + (-1)) v4 x1 x2 x3 μ
        else none
        else none
      else none
    else
      K μ
def fX11_termOf (a1 : Int32) (a2 : Int32) (μ : Mem) : Option (Int32 × Mem) :=
  fX11_termOf_5 a2 (fun μ11 =>
      some ((μ11.1 275 0), μ11)
  ) FU 0 a1 μ
set_option maxRecDepth 100000 in
theorem wX11_termOf_j104_5   {res : Int32 × Mem} (v2 : Int32) (v3 : Int32) (v4 : Int32) (v5 : Int32) (v6 : Int32) (v7 : Int32) (μ : Mem) (KB : Int32 → Int32 → Mem → Option (Int32 × Mem)) (hB : ∀ (u3 : Int32) (u4 : Int32) (um : Mem), KB u3 u4 um = some res → RW mX11_termOf 1 NF NF 5 [(0, .ref 243), (2, .int v2), (3, .int u3), (4, .int u4)] [] (um, Rf0, NF) (QN (some (.int res.1)) res.2 Rf0 NF)) (K : Mem → Option (Int32 × Mem)) (hK : ∀ (um : Mem), K um = some res → RW mX11_termOf 1 NF NF 165 [(0, .ref 243)] [] (um, Rf0, NF) (QN (some (.int res.1)) res.2 Rf0 NF)) (h : fX11_termOf_j104_5 KB K v2 v3 v4 v5 v6 v7 μ = some res) : RW mX11_termOf 1 NF NF 104 [(0, .ref 243), (2, .int v2), (3, .int v3), (4, .int v4), (5, .int v5), (6, .int v6), (7, .int v7)] [] (μ, Rf0, NF) (QN (some (.int res.1)) res.2 Rf0 NF) := by
  unfold fX11_termOf_j104_5 at h
  refine rw_aload_n 104 dX11_termOf_104 0 rfl ?_
  refine rw_getR 105 11 48 kc11 dX11_termOf_105 ly_243 rln_243 fX11_113 rfl rf_243_48 ?_
  refine rw_iload_n 108 dX11_termOf_108 2 rfl ?_
  refine rw_iconst 109 (v := 1) dX11_termOf_109 (by decide) ?_
  refine rw_isub 110 dX11_termOf_110 ?_
  refine rw_iload 111 dX11_termOf_111 4 rfl ?_
  refine rw_iconst 113 (v := 2) dX11_termOf_113 (by decide) ?_
  refine rn_icmp_ne 114 125 dX11_termOf_114 (by decide) h (fun _ h => ?_) (fun _ h => ?_)
  · refine rw_iload 125 dX11_termOf_125 4 rfl ?_
    refine rw_iconst 127 (v := 3) dX11_termOf_127 (by decide) ?_
    refine rn_icmp_ne 128 139 dX11_termOf_128 (by decide) h (fun _ h => ?_) (fun _ h => ?_)
    · refine rw_iload 139 dX11_termOf_139 4 rfl ?_
      refine rw_iconst 141 (v := 4) dX11_termOf_141 (by decide) ?_
      refine rn_icmp_ne 142 153 dX11_termOf_142 (by decide) h (fun _ h => ?_) (fun _ h => ?_)
      · refine rw_iload 153 dX11_termOf_153 5 rfl ?_
        refine rw_iload 155 dX11_termOf_155 6 rfl ?_
        refine rn_idiv 157 dX11_termOf_157 h (fun h => ?_)
        refine rn_iast 158 dX11_termOf_158 ly_275 rln_275 h (fun μ4 h => ?_)
        refine rw_iinc 159 [(0, .ref 243), (2, .int v2), (3, .int v3), (4, .int (v4 + 1)), (5, .int v5), (6, .int v6), (7, .int v7)] dX11_termOf_159 3 rfl rfl (by decide) rfl ?_
        refine rw_goto 162 5 dX11_termOf_162 (by decide) ?_
        refine rw_pick 5 [0, 1, 2, 3] rfl ?_
        exact hB v3 (v4 + 1) μ4 h
      · refine rw_iload 145 dX11_termOf_145 5 rfl ?_
        refine rw_iload 147 dX11_termOf_147 6 rfl ?_
        refine rw_imul 149 dX11_termOf_149 ?_
        refine rw_goto 150 158 dX11_termOf_150 (by decide) ?_
        refine rn_iast 158 dX11_termOf_158 ly_275 rln_275 h (fun μ5 h => ?_)
        refine rw_iinc 159 [(0, .ref 243), (2, .int v2), (3, .int v3), (4, .int (v4 + 1)), (5, .int v5), (6, .int v6), (7, .int v7)] dX11_termOf_159 3 rfl rfl (by decide) rfl ?_
        refine rw_goto 162 5 dX11_termOf_162 (by decide) ?_
        refine rw_pick 5 [0, 1, 2, 3] rfl ?_
        exact hB v3 (v4 + 1) μ5 h
    · refine rw_iload 131 dX11_termOf_131 5 rfl ?_
      refine rw_iload 133 dX11_termOf_133 6 rfl ?_
      refine rw_isub 135 dX11_termOf_135 ?_
      refine rw_goto 136 158 dX11_termOf_136 (by decide) ?_
      refine rn_iast 158 dX11_termOf_158 ly_275 rln_275 h (fun μ6 h => ?_)
      refine rw_iinc 159 [(0, .ref 243), (2, .int v2), (3, .int v3), (4, .int (v4 + 1)), (5, .int v5), (6, .int v6), (7, .int v7)] dX11_termOf_159 3 rfl rfl (by decide) rfl ?_
      refine rw_goto 162 5 dX11_termOf_162 (by decide) ?_
      refine rw_pick 5 [0, 1, 2, 3] rfl ?_
      exact hB v3 (v4 + 1) μ6 h
  · refine rw_iload 117 dX11_termOf_117 5 rfl ?_
    refine rw_iload 119 dX11_termOf_119 6 rfl ?_
    refine rw_iadd 121 dX11_termOf_121 ?_
    refine rw_goto 122 158 dX11_termOf_122 (by decide) ?_
    refine rn_iast 158 dX11_termOf_158 ly_275 rln_275 h (fun μ7 h => ?_)
    refine rw_iinc 159 [(0, .ref 243), (2, .int v2), (3, .int v3), (4, .int (v4 + 1)), (5, .int v5), (6, .int v6), (7, .int v7)] dX11_termOf_159 3 rfl rfl (by decide) rfl ?_
    refine rw_goto 162 5 dX11_termOf_162 (by decide) ?_
    refine rw_pick 5 [0, 1, 2, 3] rfl ?_
    exact hB v3 (v4 + 1) μ7 h
set_option maxRecDepth 100000 in
theorem wX11_termOf_5   (v2 : Int32)  (K : Mem → Option (Int32 × Mem)) {res : Int32 × Mem} (hK : ∀  (μ : Mem), K μ = some res → RW mX11_termOf 1 NF NF 165 [(0, .ref 243)] [] (μ, Rf0, NF) (QN (some (.int res.1)) res.2 Rf0 NF)) : ∀ (n9 : Nat) (v3 : Int32) (v4 : Int32) (μ : Mem), fX11_termOf_5 v2 K n9 v3 v4 μ = some res → RW mX11_termOf 1 NF NF 5 [(0, .ref 243), (2, .int v2), (3, .int v3), (4, .int v4)] [] (μ, Rf0, NF) (QN (some (.int res.1)) res.2 Rf0 NF) := by
  intro n9
  induction n9 with
  | zero => intro _ _ _ h; cases h
  | succ n ih =>
    intro v3 v4 μ h
    unfold fX11_termOf_5 at h
    refine rw_iload 5 dX11_termOf_5 3 rfl ?_
    refine rw_iload_n 7 dX11_termOf_7 1 rfl ?_
    refine rn_icmp_ge 8 165 dX11_termOf_8 (by decide) h (fun _ h => ?_) (fun _ h => ?_)
    · refine rw_pick 165 [0] rfl ?_
      exact hK μ h
    · refine rw_aload_n 11 dX11_termOf_11 0 rfl ?_
      refine rw_getR 12 11 43 kc11 dX11_termOf_12 ly_243 rln_243 fX11_101 rfl rf_243_43 ?_
      refine rw_iload 15 dX11_termOf_15 3 rfl ?_
      refine rn_iald 17 dX11_termOf_17 ly_271 rln_271 h (fun h => ?_)
      refine rn_ist 18 (fun x1 => [(0, .ref 243), (2, .int v2), (3, .int v3), (4, .int v4), (5, .int x1)]) dX11_termOf_18 (by decide) (fun _ => rfl) h (fun x1 h => ?_)
      refine rw_iload 20 dX11_termOf_20 4 rfl ?_
      refine rw_iconst 22 (v := 2) dX11_termOf_22 (by decide) ?_
      refine rn_icmp_ge 23 65 dX11_termOf_23 (by decide) h (fun _ h => ?_) (fun _ h => ?_)
      · refine rw_iinc 65 [(0, .ref 243), (2, .int v2), (3, .int (v3 + (-1))), (4, .int v4), (5, .int x1)] dX11_termOf_65 2 rfl rfl (by decide) rfl ?_
        refine rw_aload_n 68 dX11_termOf_68 0 rfl ?_
        refine rw_getR 69 11 48 kc11 dX11_termOf_69 ly_243 rln_243 fX11_113 rfl rf_243_48 ?_
        refine rw_iload_n 72 dX11_termOf_72 2 rfl ?_
        refine rw_iconst 73 (v := 1) dX11_termOf_73 (by decide) ?_
        refine rw_isub 74 dX11_termOf_74 ?_
        refine rn_iald 75 dX11_termOf_75 ly_275 rln_275 h (fun h => ?_)
        refine rn_ist 76 (fun x2 => [(0, .ref 243), (2, .int v2), (3, .int (v3 + (-1))), (4, .int v4), (5, .int x1), (6, .int x2)]) dX11_termOf_76 (by decide) (fun _ => rfl) h (fun x2 h => ?_)
        refine rw_aload_n 78 dX11_termOf_78 0 rfl ?_
        refine rw_getR 79 11 48 kc11 dX11_termOf_79 ly_243 rln_243 fX11_113 rfl rf_243_48 ?_
        refine rw_iload_n 82 dX11_termOf_82 2 rfl ?_
        refine rn_iald 83 dX11_termOf_83 ly_275 rln_275 h (fun h => ?_)
        refine rn_ist 84 (fun x3 => [(0, .ref 243), (2, .int v2), (3, .int (v3 + (-1))), (4, .int v4), (5, .int x1), (6, .int x2), (7, .int x3)]) dX11_termOf_84 (by decide) (fun _ => rfl) h (fun x3 h => ?_)
        refine rw_iload 86 dX11_termOf_86 4 rfl ?_
        refine rw_iconst 88 (v := 5) dX11_termOf_88 (by decide) ?_
        refine rn_icmp_ne 89 104 dX11_termOf_89 (by decide) h (fun _ h => ?_) (fun _ h => ?_)
        · exact wX11_termOf_j104_5 v2 (v3 + (-1)) v4 x1 x2 x3 μ _ (fun z0 z1 zm h => ih z0 z1 zm h) K hK h
        · refine rw_iload 92 dX11_termOf_92 6 rfl ?_
          refine rn_if_ne 94 104 dX11_termOf_94 (by decide) h (fun _ h => ?_) (fun _ h => ?_)
          · exact wX11_termOf_j104_5 v2 (v3 + (-1)) v4 x1 x2 x3 μ _ (fun z0 z1 zm h => ih z0 z1 zm h) K hK h
          · refine rw_aload_n 97 dX11_termOf_97 0 rfl ?_
            refine rw_iconst 98 (v := 1) dX11_termOf_98 (by decide) ?_
            refine rn_putI 99 11 49 kc11 dX11_termOf_99 ly_243 rln_243 fX11_312 (fun q hq => by cases hq; rfl) rfl rfl rfl h (fun μ8 h => ?_)
            refine rw_iconst 102 (v := 0) dX11_termOf_102 (by decide) ?_
            exact rn_iret2 103 dX11_termOf_103 rfl h
      · refine rw_aload_n 26 dX11_termOf_26 0 rfl ?_
        refine rw_getR 27 11 48 kc11 dX11_termOf_27 ly_243 rln_243 fX11_113 rfl rf_243_48 ?_
        refine rw_iload_n 30 dX11_termOf_30 2 rfl ?_
        refine rw_iload 31 dX11_termOf_31 4 rfl ?_
        refine rn_if_ne 33 46 dX11_termOf_33 (by decide) h (fun _ h => ?_) (fun _ h => ?_)
        · refine rw_aload_n 46 dX11_termOf_46 0 rfl ?_
          refine rw_getR 47 11 47 kc11 dX11_termOf_47 ly_243 rln_243 fX11_110 rfl rf_243_47 ?_
          refine rw_aload_n 50 dX11_termOf_50 0 rfl ?_
          refine rw_getR 51 11 44 kc11 dX11_termOf_51 ly_243 rln_243 fX11_104 rfl rf_243_44 ?_
          refine rw_iload 54 dX11_termOf_54 3 rfl ?_
          refine rn_iald 56 dX11_termOf_56 ly_272 rln_272 h (fun h => ?_)
          refine rn_iald 57 dX11_termOf_57 ly_274 rln_274 h (fun h => ?_)
          refine rn_iast 58 dX11_termOf_58 ly_275 rln_275 h (fun μ9 h => ?_)
          refine rw_iinc 59 [(0, .ref 243), (2, .int v2), (3, .int (v3 + 1)), (4, .int v4), (5, .int x1)] dX11_termOf_59 2 rfl rfl (by decide) rfl ?_
          refine rw_goto 62 159 dX11_termOf_62 (by decide) ?_
          refine rw_iinc 159 [(0, .ref 243), (2, .int v2), (3, .int (v3 + 1)), (4, .int (v4 + 1)), (5, .int x1)] dX11_termOf_159 3 rfl rfl (by decide) rfl ?_
          refine rw_goto 162 5 dX11_termOf_162 (by decide) ?_
          refine rw_pick 5 [0, 1, 2, 3] rfl ?_
          exact ih (v3 + 1) (v4 + 1) μ9 h
        · refine rw_aload_n 36 dX11_termOf_36 0 rfl ?_
          refine rw_getR 37 11 44 kc11 dX11_termOf_37 ly_243 rln_243 fX11_104 rfl rf_243_44 ?_
          refine rw_iload 40 dX11_termOf_40 3 rfl ?_
          refine rn_iald 42 dX11_termOf_42 ly_272 rln_272 h (fun h => ?_)
          refine rw_goto 43 58 dX11_termOf_43 (by decide) ?_
          refine rn_iast 58 dX11_termOf_58 ly_275 rln_275 h (fun μ10 h => ?_)
          refine rw_iinc 59 [(0, .ref 243), (2, .int v2), (3, .int (v3 + 1)), (4, .int v4), (5, .int x1)] dX11_termOf_59 2 rfl rfl (by decide) rfl ?_
          refine rw_goto 62 159 dX11_termOf_62 (by decide) ?_
          refine rw_iinc 159 [(0, .ref 243), (2, .int v2), (3, .int (v3 + 1)), (4, .int (v4 + 1)), (5, .int x1)] dX11_termOf_159 3 rfl rfl (by decide) rfl ?_
          refine rw_goto 162 5 dX11_termOf_162 (by decide) ?_
          refine rw_pick 5 [0, 1, 2, 3] rfl ?_
          exact ih (v3 + 1) (v4 + 1) μ10 h
set_option maxRecDepth 100000 in
theorem wX11_termOf (a1 : Int32) (a2 : Int32) (μ : Mem) {res : Int32 × Mem} (h : fX11_termOf a1 a2 μ = some res) : Ct mX11_termOf 1 NF NF [.ref 243, .int a1, .int a2] (μ, Rf0, NF) (QN (some (.int res.1)) res.2 Rf0 NF) := by
  unfold fX11_termOf at h
  show RW mX11_termOf 1 NF NF 0 [(0, .ref 243), (1, .int a1), (2, .int a2)] [] (μ, Rf0, NF) (QN (some (.int res.1)) res.2 Rf0 NF)
  refine rw_iconst 0 (v := 0) dX11_termOf_0 (by decide) ?_
  refine rw_istore_n 1 [(0, .ref 243), (1, .int a1), (2, .int a2), (3, .int 0)] dX11_termOf_1 (by decide) rfl ?_
  refine rw_iload_n 2 dX11_termOf_2 1 rfl ?_
  refine rw_istore 3 [(0, .ref 243), (1, .int a1), (2, .int a2), (3, .int 0), (4, .int a1)] dX11_termOf_3 (by decide) rfl ?_
  refine rw_pick 5 [0, 2, 3, 4] rfl ?_
  refine wX11_termOf_5 a2 _ (fun μ11 h => ?_) FU 0 a1 μ h
  refine rw_aload_n 165 dX11_termOf_165 0 rfl ?_
  refine rw_getR 166 11 48 kc11 dX11_termOf_166 ly_243 rln_243 fX11_113 rfl rf_243_48 ?_
  refine rw_iconst 169 (v := 0) dX11_termOf_169 (by decide) ?_
  refine rn_ialdc 170 dX11_termOf_170 ly_275 rln_275 (by decide) (j := 0) (by decide) ?_
  exact rn_iret2 171 dX11_termOf_171 rfl h
