def fX11_cut_208   (v1 : Int32) (μ : Mem) (K : Int32 → Int32 → Option (Mem)) : Nat → Int32 → Int32 → Option (Mem)
  | 0, _, _ => none
  | n + 1, v3, v4 =>
    (fX11_byteAt (v1 + v3) μ).bind fun q7 =>
    (fX11_isDigit q7 μ).bind fun q8 =>
    if q8 = true then
      if v3 < 4 then
        (fX11_byteAt (v1 + v3) μ).bind fun q9 =>
        nm (((10 * v4) + q9) - 48) fun x10 =>
        fX11_cut_208 v1 μ K n (v3 + 1) x10
      else
        fX11_cut_208 v1 μ K n (v3 + 1) v4
    else
      K v3 v4
def fX11_cut_85   (v1 : Int32) (μ : Mem) (K : Int32 → Int64 → Option (Mem)) : Nat → Int32 → Int64 → Option (Mem)
  | 0, _, _ => none
  | n + 1, v3, v4 =>
    (fX11_byteAt (v1 + v3) μ).bind fun q15 =>
    (fX11_isLetter q15 μ).bind fun q16 =>
    if q16 = true then
      if v3 < 8 then
        (fX11_byteAt (v1 + v3) μ).bind fun q17 =>
        (fX11_appends v4 q17 μ).bind fun q18 =>
        fX11_cut_85 v1 μ K n (v3 + 1) q18
      else
        fX11_cut_85 v1 μ K n (v3 + 1) v4
    else
      K v3 v4
def fX11_cut_146   (v1 : Int32) (v3 : Int32) (v4 : Int64) (μ : Mem) (K : Int32 → Option (Mem)) : Nat → Int32 → Int32 → Option (Mem)
  | 0, _, _ => none
  | n + 1, v6, v7 =>
    if v7 < 21 then
      if inb v7 21 then
      if (μ.2 250 v7.toNatClampNeg) = v4 then
        fX11_cut_146 v1 v3 v4 μ K n (20 + v7) (v7 + 1)
      else
        fX11_cut_146 v1 v3 v4 μ K n v6 (v7 + 1)
      else none
    else
      K v6
def fX11_cut_7     (K : Mem → Option (Mem)) : Nat → Int32 → Mem → Option (Mem)
  | 0, _, _ => none
  | n + 1, v1, μ =>
    if 400 < (μ.1 243 10) then
      K μ
    else
      (fX11_byteAt v1 μ).bind fun q2 =>
      if v1 < (μ.1 243 4) then
        if q2 = 9 then
          fX11_cut_7 K n (v1 + 1) μ
        else
          if q2 = 10 then
            fX11_cut_7 K n (v1 + 1) μ
          else
            if q2 = 13 then
              fX11_cut_7 K n (v1 + 1) μ
            else
              if q2 = 32 then
                fX11_cut_7 K n (v1 + 1) μ
              else
                (fX11_isLetter q2 μ).bind fun q3 =>
                if q3 = true then
                  fX11_cut_85 v1 μ (fun y19 y20 =>
                      if 8 < y19 then
                        if 8 < y19 then
                          (fX11_token 3 v1 0 y20 μ).bind fun q24 =>
                          fX11_cut_7 K n (v1 + y19) q24
                        else
                          fX11_cut_146 v1 y19 y20 μ (fun y25 =>
                              (fX11_token y25 v1 0 y20 μ).bind fun q26 =>
                              fX11_cut_7 K n (v1 + y19) q26
                          ) FU 3 0
                      else
                        if 8 < y19 then
                          (fX11_token 1 v1 0 y20 μ).bind fun q21 =>
                          fX11_cut_7 K n (v1 + y19) q21
                        else
                          fX11_cut_146 v1 y19 y20 μ (fun y22 =>
                              (fX11_token y22 v1 0 y20 μ).bind fun q23 =>
                              fX11_cut_7 K n (v1 + y19) q23
                          ) FU 1 0
                  ) FU 0 0
                else
                  (fX11_isDigit q2 μ).bind fun q4 =>
                  if q4 = true then
                    fX11_cut_208 v1 μ (fun y11 y12 =>
                        if 4 < y11 then
                          (fX11_token 3 v1 y12 0 μ).bind fun q14 =>
                          fX11_cut_7 K n (v1 + y11) q14
                        else
                          (fX11_token 2 v1 y12 0 μ).bind fun q13 =>
                          fX11_cut_7 K n (v1 + y11) q13
                    ) FU 0 0
                  else
                    (fX11_byteAt (v1 + 1) μ).bind fun q5 =>
                    (fX11_sign v1 q2 q5 μ).bind fun q6 =>
                    fX11_cut_7 K n (v1 + q6.1) q6.2
      else
        (fX11_token 0 (μ.1 243 4) 0 0 μ).bind fun q27 =>
        some q27
def fX11_cut  (μ : Mem) : Option (Mem) :=
  nm (wI μ 243 10 0) fun μ1 =>
  fX11_cut_7  (fun μ28 =>
      some μ28
  ) FU 0 μ1
set_option maxRecDepth 100000 in
theorem wX11_cut_208   (v1 : Int32) (μ : Mem) (K : Int32 → Int32 → Option (Mem)) {res : Mem} (hK : ∀ (v3 : Int32) (v4 : Int32), K v3 v4 = some res → RW mX11_cut 3 NF NF 250 [(0, .ref 243), (1, .int v1), (3, .int v3), (4, .int v4)] [] (μ, Rf0, NF) (QN none res Rf0 NF)) : ∀ (n9 : Nat) (v3 : Int32) (v4 : Int32), fX11_cut_208 v1 μ K n9 v3 v4 = some res → RW mX11_cut 3 NF NF 208 [(0, .ref 243), (1, .int v1), (3, .int v3), (4, .int v4)] [] (μ, Rf0, NF) (QN none res Rf0 NF) := by
  intro n9
  induction n9 with
  | zero => intro _ _ h; cases h
  | succ n ih =>
    intro v3 v4 h
    unfold fX11_cut_208 at h
    refine rw_aload_n 208 dX11_cut_208 0 rfl ?_
    refine rw_iload_n 209 dX11_cut_209 1 rfl ?_
    refine rw_iload_n 210 dX11_cut_210 2 rfl ?_
    refine rw_iadd 211 dX11_cut_211 ?_
    refine rn_cVpi 212 11 [.int (v1 + v3)] dX11_cut_212 caX11_byteAt lX11_187 inX11_byteAt slX11_byteAt rfl ly_243 ⟨_, rfl, rfl⟩ rln_243 naX11_byteAt (Nat.le_of_ble_eq_true rfl) (Nat.le_of_ble_eq_true rfl) (by decide) (fun _ hq => wX11_byteAt (v1 + v3) μ hq) h (fun q7 h => ?_)
    refine rn_cSpb 215 [.int q7] dX11_cut_215 caX11_isDigit lX11_199 stX11_isDigit rfl naX11_isDigit (Nat.le_of_ble_eq_true rfl) (Nat.le_of_ble_eq_true rfl) (by decide) (fun _ hq => wX11_isDigit q7 μ hq) h (fun q8 h => ?_)
    refine rn_ifb_eq 218 250 dX11_cut_218 (by decide) h (fun _ h => ?_) (fun _ h => ?_)
    · exact hK v3 v4 h
    · refine rw_iload_n 221 dX11_cut_221 2 rfl ?_
      refine rw_iconst 222 (v := 4) dX11_cut_222 (by decide) ?_
      refine rn_icmp_ge 223 244 dX11_cut_223 (by decide) h (fun _ h => ?_) (fun _ h => ?_)
      · refine rw_iinc 244 [(0, .ref 243), (1, .int v1), (3, .int (v3 + 1)), (4, .int v4)] dX11_cut_244 2 rfl rfl (by decide) rfl ?_
        refine rw_goto 247 208 dX11_cut_247 (by decide) ?_
        exact ih (v3 + 1) v4 h
      · refine rw_bipush 226 (v := 10) dX11_cut_226 (by decide) ?_
        refine rw_iload 228 dX11_cut_228 3 rfl ?_
        refine rw_imul 230 dX11_cut_230 ?_
        refine rw_aload_n 231 dX11_cut_231 0 rfl ?_
        refine rw_iload_n 232 dX11_cut_232 1 rfl ?_
        refine rw_iload_n 233 dX11_cut_233 2 rfl ?_
        refine rw_iadd 234 dX11_cut_234 ?_
        refine rn_cVpi 235 11 [.int (v1 + v3)] dX11_cut_235 caX11_byteAt lX11_187 inX11_byteAt slX11_byteAt rfl ly_243 ⟨_, rfl, rfl⟩ rln_243 naX11_byteAt (Nat.le_of_ble_eq_true rfl) (Nat.le_of_ble_eq_true rfl) (by decide) (fun _ hq => wX11_byteAt (v1 + v3) μ hq) h (fun q9 h => ?_)
        refine rw_iadd 238 dX11_cut_238 ?_
        refine rw_bipush 239 (v := 48) dX11_cut_239 (by decide) ?_
        refine rw_isub 241 dX11_cut_241 ?_
        refine rn_ist 242 (fun x10 => [(0, .ref 243), (1, .int v1), (3, .int v3), (4, .int x10)]) dX11_cut_242 (by decide) (fun _ => rfl) h (fun x10 h => ?_)
        refine rw_iinc 244 [(0, .ref 243), (1, .int v1), (3, .int (v3 + 1)), (4, .int x10)] dX11_cut_244 2 rfl rfl (by decide) rfl ?_
        refine rw_goto 247 208 dX11_cut_247 (by decide) ?_
        exact ih (v3 + 1) x10 h
set_option maxRecDepth 100000 in
theorem wX11_cut_85   (v1 : Int32) (μ : Mem) (K : Int32 → Int64 → Option (Mem)) {res : Mem} (hK : ∀ (v3 : Int32) (v4 : Int64), K v3 v4 = some res → RW mX11_cut 3 NF NF 124 [(0, .ref 243), (1, .int v1), (3, .int v3), (4, .long v4)] [] (μ, Rf0, NF) (QN none res Rf0 NF)) : ∀ (n9 : Nat) (v3 : Int32) (v4 : Int64), fX11_cut_85 v1 μ K n9 v3 v4 = some res → RW mX11_cut 3 NF NF 85 [(0, .ref 243), (1, .int v1), (3, .int v3), (4, .long v4)] [] (μ, Rf0, NF) (QN none res Rf0 NF) := by
  intro n9
  induction n9 with
  | zero => intro _ _ h; cases h
  | succ n ih =>
    intro v3 v4 h
    unfold fX11_cut_85 at h
    refine rw_aload_n 85 dX11_cut_85 0 rfl ?_
    refine rw_iload_n 86 dX11_cut_86 1 rfl ?_
    refine rw_iload_n 87 dX11_cut_87 2 rfl ?_
    refine rw_iadd 88 dX11_cut_88 ?_
    refine rn_cVpi 89 11 [.int (v1 + v3)] dX11_cut_89 caX11_byteAt lX11_187 inX11_byteAt slX11_byteAt rfl ly_243 ⟨_, rfl, rfl⟩ rln_243 naX11_byteAt (Nat.le_of_ble_eq_true rfl) (Nat.le_of_ble_eq_true rfl) (by decide) (fun _ hq => wX11_byteAt (v1 + v3) μ hq) h (fun q15 h => ?_)
    refine rn_cSpb 92 [.int q15] dX11_cut_92 caX11_isLetter lX11_195 stX11_isLetter rfl naX11_isLetter (Nat.le_of_ble_eq_true rfl) (Nat.le_of_ble_eq_true rfl) (by decide) (fun _ hq => wX11_isLetter q15 μ hq) h (fun q16 h => ?_)
    refine rn_ifb_eq 95 124 dX11_cut_95 (by decide) h (fun _ h => ?_) (fun _ h => ?_)
    · exact hK v3 v4 h
    · refine rw_iload_n 98 dX11_cut_98 2 rfl ?_
      refine rw_bipush 99 (v := 8) dX11_cut_99 (by decide) ?_
      refine rn_icmp_ge 101 118 dX11_cut_101 (by decide) h (fun _ h => ?_) (fun _ h => ?_)
      · refine rw_iinc 118 [(0, .ref 243), (1, .int v1), (3, .int (v3 + 1)), (4, .long v4)] dX11_cut_118 2 rfl rfl (by decide) rfl ?_
        refine rw_goto 121 85 dX11_cut_121 (by decide) ?_
        exact ih (v3 + 1) v4 h
      · refine rw_lload 104 dX11_cut_104 3 rfl ?_
        refine rw_aload_n 106 dX11_cut_106 0 rfl ?_
        refine rw_iload_n 107 dX11_cut_107 1 rfl ?_
        refine rw_iload_n 108 dX11_cut_108 2 rfl ?_
        refine rw_iadd 109 dX11_cut_109 ?_
        refine rn_cVpi 110 11 [.int (v1 + v3)] dX11_cut_110 caX11_byteAt lX11_187 inX11_byteAt slX11_byteAt rfl ly_243 ⟨_, rfl, rfl⟩ rln_243 naX11_byteAt (Nat.le_of_ble_eq_true rfl) (Nat.le_of_ble_eq_true rfl) (by decide) (fun _ hq => wX11_byteAt (v1 + v3) μ hq) h (fun q17 h => ?_)
        refine rn_cSpl 113 [.long v4, .int q17] dX11_cut_113 caX11_appends lX11_180 stX11_appends rfl naX11_appends (Nat.le_of_ble_eq_true rfl) (Nat.le_of_ble_eq_true rfl) (by decide) (fun _ hq => wX11_appends v4 q17 μ hq) h (fun q18 h => ?_)
        refine rw_lstore 116 [(0, .ref 243), (1, .int v1), (3, .int v3), (4, .long q18)] dX11_cut_116 (by decide) rfl ?_
        refine rw_iinc 118 [(0, .ref 243), (1, .int v1), (3, .int (v3 + 1)), (4, .long q18)] dX11_cut_118 2 rfl rfl (by decide) rfl ?_
        refine rw_goto 121 85 dX11_cut_121 (by decide) ?_
        exact ih (v3 + 1) q18 h
set_option maxRecDepth 100000 in
theorem wX11_cut_146   (v1 : Int32) (v3 : Int32) (v4 : Int64) (μ : Mem) (K : Int32 → Option (Mem)) {res : Mem} (hK : ∀ (v6 : Int32), K v6 = some res → RW mX11_cut 3 NF NF 179 [(0, .ref 243), (1, .int v1), (3, .int v3), (4, .long v4), (6, .int v6)] [] (μ, Rf0, NF) (QN none res Rf0 NF)) : ∀ (n9 : Nat) (v6 : Int32) (v7 : Int32), fX11_cut_146 v1 v3 v4 μ K n9 v6 v7 = some res → RW mX11_cut 3 NF NF 146 [(0, .ref 243), (1, .int v1), (3, .int v3), (4, .long v4), (6, .int v6), (7, .int v7)] [] (μ, Rf0, NF) (QN none res Rf0 NF) := by
  intro n9
  induction n9 with
  | zero => intro _ _ h; cases h
  | succ n ih =>
    intro v6 v7 h
    unfold fX11_cut_146 at h
    refine rw_iload 146 dX11_cut_146 5 rfl ?_
    refine rw_bipush 148 (v := 21) dX11_cut_148 (by decide) ?_
    refine rn_icmp_ge 150 179 dX11_cut_150 (by decide) h (fun _ h => ?_) (fun _ h => ?_)
    · refine rw_pick 179 [0, 1, 2, 3, 4] rfl ?_
      exact hK v6 h
    · refine rw_aload_n 153 dX11_cut_153 0 rfl ?_
      refine rw_getR 154 11 9 kc11 dX11_cut_154 ly_243 rln_243 fX11_34 rfl rf_243_9 ?_
      refine rw_iload 157 dX11_cut_157 5 rfl ?_
      refine rn_lald 159 dX11_cut_159 ly_250 rln_250 h (fun h => ?_)
      refine rw_lload 160 dX11_cut_160 3 rfl ?_
      refine rn_lcmp_ne 162 173 dX11_cut_162 dX11_cut_163 (by decide) h (fun _ h => ?_) (fun _ h => ?_)
      · refine rw_iinc 173 [(0, .ref 243), (1, .int v1), (3, .int v3), (4, .long v4), (6, .int v6), (7, .int (v7 + 1))] dX11_cut_173 5 rfl rfl (by decide) rfl ?_
        refine rw_goto 176 146 dX11_cut_176 (by decide) ?_
        exact ih v6 (v7 + 1) h
      · refine rw_bipush 166 (v := 20) dX11_cut_166 (by decide) ?_
        refine rw_iload 168 dX11_cut_168 5 rfl ?_
        refine rw_iadd 170 dX11_cut_170 ?_
        refine rw_istore 171 [(0, .ref 243), (1, .int v1), (3, .int v3), (4, .long v4), (6, .int (20 + v7)), (7, .int v7)] dX11_cut_171 (by decide) rfl ?_
        refine rw_iinc 173 [(0, .ref 243), (1, .int v1), (3, .int v3), (4, .long v4), (6, .int (20 + v7)), (7, .int (v7 + 1))] dX11_cut_173 5 rfl rfl (by decide) rfl ?_
        refine rw_goto 176 146 dX11_cut_176 (by decide) ?_
        exact ih (20 + v7) (v7 + 1) h
set_option maxRecDepth 100000 in
theorem wX11_cut_7     (K : Mem → Option (Mem)) {res : Mem} (hK : ∀  (μ : Mem), K μ = some res → RW mX11_cut 3 NF NF 294 [] [] (μ, Rf0, NF) (QN none res Rf0 NF)) : ∀ (n9 : Nat) (v1 : Int32) (μ : Mem), fX11_cut_7 K n9 v1 μ = some res → RW mX11_cut 3 NF NF 7 [(0, .ref 243), (1, .int v1)] [] (μ, Rf0, NF) (QN none res Rf0 NF) := by
  intro n9
  induction n9 with
  | zero => intro _ _ h; cases h
  | succ n ih =>
    intro v1 μ h
    unfold fX11_cut_7 at h
    refine rw_aload_n 7 dX11_cut_7 0 rfl ?_
    refine rw_getI 8 11 10 kc11 dX11_cut_8 ly_243 rln_243 fX11_184 rfl ?_
    refine rw_sipush 11 (v := 400) dX11_cut_11 (by decide) ?_
    refine rn_icmp_gt 14 294 dX11_cut_14 (by decide) h (fun _ h => ?_) (fun _ h => ?_)
    · refine rw_pick 294 [] rfl ?_
      exact hK μ h
    · refine rw_aload_n 17 dX11_cut_17 0 rfl ?_
      refine rw_iload_n 18 dX11_cut_18 1 rfl ?_
      refine rn_cVpi 19 11 [.int v1] dX11_cut_19 caX11_byteAt lX11_187 inX11_byteAt slX11_byteAt rfl ly_243 ⟨_, rfl, rfl⟩ rln_243 naX11_byteAt (Nat.le_of_ble_eq_true rfl) (Nat.le_of_ble_eq_true rfl) (by decide) (fun _ hq => wX11_byteAt v1 μ hq) h (fun q2 h => ?_)
      refine rw_istore_n 22 [(0, .ref 243), (1, .int v1), (2, .int q2)] dX11_cut_22 (by decide) rfl ?_
      refine rw_iload_n 23 dX11_cut_23 1 rfl ?_
      refine rw_aload_n 24 dX11_cut_24 0 rfl ?_
      refine rw_getI 25 11 4 kc11 dX11_cut_25 ly_243 rln_243 fX11_175 rfl ?_
      refine rn_icmp_lt 28 43 dX11_cut_28 (by decide) h (fun _ h => ?_) (fun _ h => ?_)
      · refine rw_iload_n 43 dX11_cut_43 2 rfl ?_
        refine rw_bipush 44 (v := 9) dX11_cut_44 (by decide) ?_
        refine rn_icmp_eq 46 67 dX11_cut_46 (by decide) h (fun _ h => ?_) (fun _ h => ?_)
        · refine rw_iinc 67 [(0, .ref 243), (1, .int (v1 + 1)), (2, .int q2)] dX11_cut_67 1 rfl rfl (by decide) rfl ?_
          refine rw_goto 70 291 dX11_cut_70 (by decide) ?_
          refine rw_goto 291 7 dX11_cut_291 (by decide) ?_
          refine rw_pick 7 [0, 1] rfl ?_
          exact ih (v1 + 1) μ h
        · refine rw_iload_n 49 dX11_cut_49 2 rfl ?_
          refine rw_bipush 50 (v := 10) dX11_cut_50 (by decide) ?_
          refine rn_icmp_eq 52 67 dX11_cut_52 (by decide) h (fun _ h => ?_) (fun _ h => ?_)
          · refine rw_iinc 67 [(0, .ref 243), (1, .int (v1 + 1)), (2, .int q2)] dX11_cut_67 1 rfl rfl (by decide) rfl ?_
            refine rw_goto 70 291 dX11_cut_70 (by decide) ?_
            refine rw_goto 291 7 dX11_cut_291 (by decide) ?_
            refine rw_pick 7 [0, 1] rfl ?_
            exact ih (v1 + 1) μ h
          · refine rw_iload_n 55 dX11_cut_55 2 rfl ?_
            refine rw_bipush 56 (v := 13) dX11_cut_56 (by decide) ?_
            refine rn_icmp_eq 58 67 dX11_cut_58 (by decide) h (fun _ h => ?_) (fun _ h => ?_)
            · refine rw_iinc 67 [(0, .ref 243), (1, .int (v1 + 1)), (2, .int q2)] dX11_cut_67 1 rfl rfl (by decide) rfl ?_
              refine rw_goto 70 291 dX11_cut_70 (by decide) ?_
              refine rw_goto 291 7 dX11_cut_291 (by decide) ?_
              refine rw_pick 7 [0, 1] rfl ?_
              exact ih (v1 + 1) μ h
            · refine rw_iload_n 61 dX11_cut_61 2 rfl ?_
              refine rw_bipush 62 (v := 32) dX11_cut_62 (by decide) ?_
              refine rn_icmp_ne 64 73 dX11_cut_64 (by decide) h (fun _ h => ?_) (fun _ h => ?_)
              · refine rw_iload_n 73 dX11_cut_73 2 rfl ?_
                refine rn_cSpb 74 [.int q2] dX11_cut_74 caX11_isLetter lX11_195 stX11_isLetter rfl naX11_isLetter (Nat.le_of_ble_eq_true rfl) (Nat.le_of_ble_eq_true rfl) (by decide) (fun _ hq => wX11_isLetter q2 μ hq) h (fun q3 h => ?_)
                refine rn_ifb_eq 77 196 dX11_cut_77 (by decide) h (fun _ h => ?_) (fun _ h => ?_)
                · refine rw_iload_n 196 dX11_cut_196 2 rfl ?_
                  refine rn_cSpb 197 [.int q2] dX11_cut_197 caX11_isDigit lX11_199 stX11_isDigit rfl naX11_isDigit (Nat.le_of_ble_eq_true rfl) (Nat.le_of_ble_eq_true rfl) (by decide) (fun _ hq => wX11_isDigit q2 μ hq) h (fun q4 h => ?_)
                  refine rn_ifb_eq 200 275 dX11_cut_200 (by decide) h (fun _ h => ?_) (fun _ h => ?_)
                  · refine rw_iload_n 275 dX11_cut_275 1 rfl ?_
                    refine rw_aload_n 276 dX11_cut_276 0 rfl ?_
                    refine rw_iload_n 277 dX11_cut_277 1 rfl ?_
                    refine rw_iload_n 278 dX11_cut_278 2 rfl ?_
                    refine rw_aload_n 279 dX11_cut_279 0 rfl ?_
                    refine rw_iload_n 280 dX11_cut_280 1 rfl ?_
                    refine rw_iconst 281 (v := 1) dX11_cut_281 (by decide) ?_
                    refine rw_iadd 282 dX11_cut_282 ?_
                    refine rn_cVpi 283 11 [.int (v1 + 1)] dX11_cut_283 caX11_byteAt lX11_187 inX11_byteAt slX11_byteAt rfl ly_243 ⟨_, rfl, rfl⟩ rln_243 naX11_byteAt (Nat.le_of_ble_eq_true rfl) (Nat.le_of_ble_eq_true rfl) (by decide) (fun _ hq => wX11_byteAt (v1 + 1) μ hq) h (fun q5 h => ?_)
                    refine rn_cVmi 286 11 [.int v1, .int q2, .int q5] dX11_cut_286 caX11_sign lX11_202 inX11_sign slX11_sign rfl ly_243 ⟨_, rfl, rfl⟩ rln_243 naX11_sign (Nat.le_of_ble_eq_true rfl) (Nat.le_of_ble_eq_true rfl) (by decide) (fun _ hq => wX11_sign v1 q2 q5 μ hq) h (fun q6 h => ?_)
                    refine rw_iadd 289 dX11_cut_289 ?_
                    refine rw_istore_n 290 [(0, .ref 243), (1, .int (v1 + q6.1)), (2, .int q2)] dX11_cut_290 (by decide) rfl ?_
                    refine rw_goto 291 7 dX11_cut_291 (by decide) ?_
                    refine rw_pick 7 [0, 1] rfl ?_
                    exact ih (v1 + q6.1) q6.2 h
                  · refine rw_iconst 203 (v := 0) dX11_cut_203 (by decide) ?_
                    refine rw_istore_n 204 [(0, .ref 243), (1, .int v1), (2, .int q2), (3, .int 0)] dX11_cut_204 (by decide) rfl ?_
                    refine rw_iconst 205 (v := 0) dX11_cut_205 (by decide) ?_
                    refine rw_istore 206 [(0, .ref 243), (1, .int v1), (2, .int q2), (3, .int 0), (4, .int 0)] dX11_cut_206 (by decide) rfl ?_
                    refine rw_pick 208 [0, 1, 3, 4] rfl ?_
                    refine wX11_cut_208 v1 μ _ (fun y11 y12 h => ?_) FU 0 0 h
                    refine rw_aload_n 250 dX11_cut_250 0 rfl ?_
                    refine rw_iload_n 251 dX11_cut_251 2 rfl ?_
                    refine rw_iconst 252 (v := 4) dX11_cut_252 (by decide) ?_
                    refine rn_icmp_le 253 260 dX11_cut_253 (by decide) h (fun _ h => ?_) (fun _ h => ?_)
                    · refine rw_iconst 260 (v := 2) dX11_cut_260 (by decide) ?_
                      refine rw_iload_n 261 dX11_cut_261 1 rfl ?_
                      refine rw_iload 262 dX11_cut_262 3 rfl ?_
                      refine rw_lconst 264 (v := 0) dX11_cut_264 (by decide) ?_
                      refine rn_cVmv 265 11 [.int 2, .int v1, .int y12, .long 0] dX11_cut_265 caX11_token lX11_191 inX11_token slX11_token rfl ly_243 ⟨_, rfl, rfl⟩ rln_243 naX11_token (Nat.le_of_ble_eq_true rfl) (Nat.le_of_ble_eq_true rfl) (by decide) (fun _ hq => wX11_token 2 v1 y12 0 μ hq) h (fun q13 h => ?_)
                      refine rw_iload_n 268 dX11_cut_268 1 rfl ?_
                      refine rw_iload_n 269 dX11_cut_269 2 rfl ?_
                      refine rw_iadd 270 dX11_cut_270 ?_
                      refine rw_istore_n 271 [(0, .ref 243), (1, .int (v1 + y11)), (3, .int y11), (4, .int y12)] dX11_cut_271 (by decide) rfl ?_
                      refine rw_goto 272 291 dX11_cut_272 (by decide) ?_
                      refine rw_goto 291 7 dX11_cut_291 (by decide) ?_
                      refine rw_pick 7 [0, 1] rfl ?_
                      exact ih (v1 + y11) q13 h
                    · refine rw_iconst 256 (v := 3) dX11_cut_256 (by decide) ?_
                      refine rw_goto 257 261 dX11_cut_257 (by decide) ?_
                      refine rw_iload_n 261 dX11_cut_261 1 rfl ?_
                      refine rw_iload 262 dX11_cut_262 3 rfl ?_
                      refine rw_lconst 264 (v := 0) dX11_cut_264 (by decide) ?_
                      refine rn_cVmv 265 11 [.int 3, .int v1, .int y12, .long 0] dX11_cut_265 caX11_token lX11_191 inX11_token slX11_token rfl ly_243 ⟨_, rfl, rfl⟩ rln_243 naX11_token (Nat.le_of_ble_eq_true rfl) (Nat.le_of_ble_eq_true rfl) (by decide) (fun _ hq => wX11_token 3 v1 y12 0 μ hq) h (fun q14 h => ?_)
                      refine rw_iload_n 268 dX11_cut_268 1 rfl ?_
                      refine rw_iload_n 269 dX11_cut_269 2 rfl ?_
                      refine rw_iadd 270 dX11_cut_270 ?_
                      refine rw_istore_n 271 [(0, .ref 243), (1, .int (v1 + y11)), (3, .int y11), (4, .int y12)] dX11_cut_271 (by decide) rfl ?_
                      refine rw_goto 272 291 dX11_cut_272 (by decide) ?_
                      refine rw_goto 291 7 dX11_cut_291 (by decide) ?_
                      refine rw_pick 7 [0, 1] rfl ?_
                      exact ih (v1 + y11) q14 h
                · refine rw_iconst 80 (v := 0) dX11_cut_80 (by decide) ?_
                  refine rw_istore_n 81 [(0, .ref 243), (1, .int v1), (2, .int q2), (3, .int 0)] dX11_cut_81 (by decide) rfl ?_
                  refine rw_lconst 82 (v := 0) dX11_cut_82 (by decide) ?_
                  refine rw_lstore 83 [(0, .ref 243), (1, .int v1), (2, .int q2), (3, .int 0), (4, .long 0)] dX11_cut_83 (by decide) rfl ?_
                  refine rw_pick 85 [0, 1, 3, 4] rfl ?_
                  refine wX11_cut_85 v1 μ _ (fun y19 y20 h => ?_) FU 0 0 h
                  refine rw_iload_n 124 dX11_cut_124 2 rfl ?_
                  refine rw_bipush 125 (v := 8) dX11_cut_125 (by decide) ?_
                  refine rn_icmp_le 127 134 dX11_cut_127 (by decide) h (fun _ h => ?_) (fun _ h => ?_)
                  · refine rw_iconst 134 (v := 1) dX11_cut_134 (by decide) ?_
                    refine rw_istore 135 [(0, .ref 243), (1, .int v1), (3, .int y19), (4, .long y20), (6, .int 1)] dX11_cut_135 (by decide) rfl ?_
                    refine rw_iload_n 137 dX11_cut_137 2 rfl ?_
                    refine rw_bipush 138 (v := 8) dX11_cut_138 (by decide) ?_
                    refine rn_icmp_gt 140 179 dX11_cut_140 (by decide) h (fun _ h => ?_) (fun _ h => ?_)
                    · refine rw_aload_n 179 dX11_cut_179 0 rfl ?_
                      refine rw_iload 180 dX11_cut_180 4 rfl ?_
                      refine rw_iload_n 182 dX11_cut_182 1 rfl ?_
                      refine rw_iconst 183 (v := 0) dX11_cut_183 (by decide) ?_
                      refine rw_lload 184 dX11_cut_184 3 rfl ?_
                      refine rn_cVmv 186 11 [.int 1, .int v1, .int 0, .long y20] dX11_cut_186 caX11_token lX11_191 inX11_token slX11_token rfl ly_243 ⟨_, rfl, rfl⟩ rln_243 naX11_token (Nat.le_of_ble_eq_true rfl) (Nat.le_of_ble_eq_true rfl) (by decide) (fun _ hq => wX11_token 1 v1 0 y20 μ hq) h (fun q21 h => ?_)
                      refine rw_iload_n 189 dX11_cut_189 1 rfl ?_
                      refine rw_iload_n 190 dX11_cut_190 2 rfl ?_
                      refine rw_iadd 191 dX11_cut_191 ?_
                      refine rw_istore_n 192 [(0, .ref 243), (1, .int (v1 + y19)), (3, .int y19), (4, .long y20), (6, .int 1)] dX11_cut_192 (by decide) rfl ?_
                      refine rw_goto 193 291 dX11_cut_193 (by decide) ?_
                      refine rw_goto 291 7 dX11_cut_291 (by decide) ?_
                      refine rw_pick 7 [0, 1] rfl ?_
                      exact ih (v1 + y19) q21 h
                    · refine rw_iconst 143 (v := 0) dX11_cut_143 (by decide) ?_
                      refine rw_istore 144 [(0, .ref 243), (1, .int v1), (3, .int y19), (4, .long y20), (6, .int 1), (7, .int 0)] dX11_cut_144 (by decide) rfl ?_
                      refine wX11_cut_146 v1 y19 y20 μ _ (fun y22 h => ?_) FU 1 0 h
                      refine rw_aload_n 179 dX11_cut_179 0 rfl ?_
                      refine rw_iload 180 dX11_cut_180 4 rfl ?_
                      refine rw_iload_n 182 dX11_cut_182 1 rfl ?_
                      refine rw_iconst 183 (v := 0) dX11_cut_183 (by decide) ?_
                      refine rw_lload 184 dX11_cut_184 3 rfl ?_
                      refine rn_cVmv 186 11 [.int y22, .int v1, .int 0, .long y20] dX11_cut_186 caX11_token lX11_191 inX11_token slX11_token rfl ly_243 ⟨_, rfl, rfl⟩ rln_243 naX11_token (Nat.le_of_ble_eq_true rfl) (Nat.le_of_ble_eq_true rfl) (by decide) (fun _ hq => wX11_token y22 v1 0 y20 μ hq) h (fun q23 h => ?_)
                      refine rw_iload_n 189 dX11_cut_189 1 rfl ?_
                      refine rw_iload_n 190 dX11_cut_190 2 rfl ?_
                      refine rw_iadd 191 dX11_cut_191 ?_
                      refine rw_istore_n 192 [(0, .ref 243), (1, .int (v1 + y19)), (3, .int y19), (4, .long y20), (6, .int y22)] dX11_cut_192 (by decide) rfl ?_
                      refine rw_goto 193 291 dX11_cut_193 (by decide) ?_
                      refine rw_goto 291 7 dX11_cut_291 (by decide) ?_
                      refine rw_pick 7 [0, 1] rfl ?_
                      exact ih (v1 + y19) q23 h
                  · refine rw_iconst 130 (v := 3) dX11_cut_130 (by decide) ?_
                    refine rw_goto 131 135 dX11_cut_131 (by decide) ?_
                    refine rw_istore 135 [(0, .ref 243), (1, .int v1), (3, .int y19), (4, .long y20), (6, .int 3)] dX11_cut_135 (by decide) rfl ?_
                    refine rw_iload_n 137 dX11_cut_137 2 rfl ?_
                    refine rw_bipush 138 (v := 8) dX11_cut_138 (by decide) ?_
                    refine rn_icmp_gt 140 179 dX11_cut_140 (by decide) h (fun _ h => ?_) (fun _ h => ?_)
                    · refine rw_aload_n 179 dX11_cut_179 0 rfl ?_
                      refine rw_iload 180 dX11_cut_180 4 rfl ?_
                      refine rw_iload_n 182 dX11_cut_182 1 rfl ?_
                      refine rw_iconst 183 (v := 0) dX11_cut_183 (by decide) ?_
                      refine rw_lload 184 dX11_cut_184 3 rfl ?_
                      refine rn_cVmv 186 11 [.int 3, .int v1, .int 0, .long y20] dX11_cut_186 caX11_token lX11_191 inX11_token slX11_token rfl ly_243 ⟨_, rfl, rfl⟩ rln_243 naX11_token (Nat.le_of_ble_eq_true rfl) (Nat.le_of_ble_eq_true rfl) (by decide) (fun _ hq => wX11_token 3 v1 0 y20 μ hq) h (fun q24 h => ?_)
                      refine rw_iload_n 189 dX11_cut_189 1 rfl ?_
                      refine rw_iload_n 190 dX11_cut_190 2 rfl ?_
                      refine rw_iadd 191 dX11_cut_191 ?_
                      refine rw_istore_n 192 [(0, .ref 243), (1, .int (v1 + y19)), (3, .int y19), (4, .long y20), (6, .int 3)] dX11_cut_192 (by decide) rfl ?_
                      refine rw_goto 193 291 dX11_cut_193 (by decide) ?_
                      refine rw_goto 291 7 dX11_cut_291 (by decide) ?_
                      refine rw_pick 7 [0, 1] rfl ?_
                      exact ih (v1 + y19) q24 h
                    · refine rw_iconst 143 (v := 0) dX11_cut_143 (by decide) ?_
                      refine rw_istore 144 [(0, .ref 243), (1, .int v1), (3, .int y19), (4, .long y20), (6, .int 3), (7, .int 0)] dX11_cut_144 (by decide) rfl ?_
                      refine wX11_cut_146 v1 y19 y20 μ _ (fun y25 h => ?_) FU 3 0 h
                      refine rw_aload_n 179 dX11_cut_179 0 rfl ?_
                      refine rw_iload 180 dX11_cut_180 4 rfl ?_
                      refine rw_iload_n 182 dX11_cut_182 1 rfl ?_
                      refine rw_iconst 183 (v := 0) dX11_cut_183 (by decide) ?_
                      refine rw_lload 184 dX11_cut_184 3 rfl ?_
                      refine rn_cVmv 186 11 [.int y25, .int v1, .int 0, .long y20] dX11_cut_186 caX11_token lX11_191 inX11_token slX11_token rfl ly_243 ⟨_, rfl, rfl⟩ rln_243 naX11_token (Nat.le_of_ble_eq_true rfl) (Nat.le_of_ble_eq_true rfl) (by decide) (fun _ hq => wX11_token y25 v1 0 y20 μ hq) h (fun q26 h => ?_)
                      refine rw_iload_n 189 dX11_cut_189 1 rfl ?_
                      refine rw_iload_n 190 dX11_cut_190 2 rfl ?_
                      refine rw_iadd 191 dX11_cut_191 ?_
                      refine rw_istore_n 192 [(0, .ref 243), (1, .int (v1 + y19)), (3, .int y19), (4, .long y20), (6, .int y25)] dX11_cut_192 (by decide) rfl ?_
                      refine rw_goto 193 291 dX11_cut_193 (by decide) ?_
                      refine rw_goto 291 7 dX11_cut_291 (by decide) ?_
                      refine rw_pick 7 [0, 1] rfl ?_
                      exact ih (v1 + y19) q26 h
              · refine rw_iinc 67 [(0, .ref 243), (1, .int (v1 + 1)), (2, .int q2)] dX11_cut_67 1 rfl rfl (by decide) rfl ?_
                refine rw_goto 70 291 dX11_cut_70 (by decide) ?_
                refine rw_goto 291 7 dX11_cut_291 (by decide) ?_
                refine rw_pick 7 [0, 1] rfl ?_
                exact ih (v1 + 1) μ h
      · refine rw_aload_n 31 dX11_cut_31 0 rfl ?_
        refine rw_iconst 32 (v := 0) dX11_cut_32 (by decide) ?_
        refine rw_aload_n 33 dX11_cut_33 0 rfl ?_
        refine rw_getI 34 11 4 kc11 dX11_cut_34 ly_243 rln_243 fX11_175 rfl ?_
        refine rw_iconst 37 (v := 0) dX11_cut_37 (by decide) ?_
        refine rw_lconst 38 (v := 0) dX11_cut_38 (by decide) ?_
        refine rn_cVmv 39 11 [.int 0, .int (μ.1 243 4), .int 0, .long 0] dX11_cut_39 caX11_token lX11_191 inX11_token slX11_token rfl ly_243 ⟨_, rfl, rfl⟩ rln_243 naX11_token (Nat.le_of_ble_eq_true rfl) (Nat.le_of_ble_eq_true rfl) (by decide) (fun _ hq => wX11_token 0 (μ.1 243 4) 0 0 μ hq) h (fun q27 h => ?_)
        exact rn_vret 42 dX11_cut_42 rfl h
set_option maxRecDepth 100000 in
theorem wX11_cut  (μ : Mem) {res : Mem} (h : fX11_cut  μ = some res) : Ct mX11_cut 3 NF NF [.ref 243] (μ, Rf0, NF) (QN none res Rf0 NF) := by
  unfold fX11_cut at h
  show RW mX11_cut 3 NF NF 0 [(0, .ref 243)] [] (μ, Rf0, NF) (QN none res Rf0 NF)
  refine rw_aload_n 0 dX11_cut_0 0 rfl ?_
  refine rw_iconst 1 (v := 0) dX11_cut_1 (by decide) ?_
  refine rn_putI 2 11 10 kc11 dX11_cut_2 ly_243 rln_243 fX11_184 (fun q hq => by cases hq; rfl) rfl rfl rfl h (fun μ1 h => ?_)
  refine rw_iconst 5 (v := 0) dX11_cut_5 (by decide) ?_
  refine rw_istore_n 6 [(0, .ref 243), (1, .int 0)] dX11_cut_6 (by decide) rfl ?_
  refine wX11_cut_7 _ (fun μ28 h => ?_) FU 0 μ1 h
  exact rn_vret 294 dX11_cut_294 rfl h
def fX11_is (a1 : Int32) (μ : Mem) : Option (Bool) :=
  if (μ.1 243 13) = 0 then
    if inb (μ.1 243 11) 403 then
    if (μ.1 246 (μ.1 243 11).toNatClampNeg) = a1 then
      some true
    else
      some false
    else none
  else
    some false
set_option maxRecDepth 100000 in
theorem wX11_is (a1 : Int32) (μ : Mem) {res : Bool} (h : fX11_is a1 μ = some res) : Ct mX11_is 1 NF NF [.ref 243, .int a1] (μ, Rf0, NF) (QN (some (.int (b2i res))) μ Rf0 NF) := by
  unfold fX11_is at h
  show RW mX11_is 1 NF NF 0 [(0, .ref 243), (1, .int a1)] [] (μ, Rf0, NF) (QN (some (.int (b2i res))) μ Rf0 NF)
  refine rw_aload_n 0 dX11_is_0 0 rfl ?_
  refine rw_getI 1 11 13 kc11 dX11_is_1 ly_243 rln_243 fX11_206 rfl ?_
  refine rn_if_ne 4 24 dX11_is_4 (by decide) h (fun _ h => ?_) (fun _ h => ?_)
  · refine rw_iconst 24 (v := 0) dX11_is_24 (by decide) ?_
    exact rn_zret 25 (v := false) dX11_is_25 rfl h
  · refine rw_aload_n 7 dX11_is_7 0 rfl ?_
    refine rw_getR 8 11 5 kc11 dX11_is_8 ly_243 rln_243 fX11_20 rfl rf_243_5 ?_
    refine rw_aload_n 11 dX11_is_11 0 rfl ?_
    refine rw_getI 12 11 11 kc11 dX11_is_12 ly_243 rln_243 fX11_209 rfl ?_
    refine rn_iald 15 dX11_is_15 ly_246 rln_246 h (fun h => ?_)
    refine rw_iload_n 16 dX11_is_16 1 rfl ?_
    refine rn_icmp_ne 17 24 dX11_is_17 (by decide) h (fun _ h => ?_) (fun _ h => ?_)
    · refine rw_iconst 24 (v := 0) dX11_is_24 (by decide) ?_
      exact rn_zret 25 (v := false) dX11_is_25 rfl h
    · refine rw_iconst 20 (v := 1) dX11_is_20 (by decide) ?_
      refine rw_goto 21 25 dX11_is_21 (by decide) ?_
      exact rn_zret 25 (v := true) dX11_is_25 rfl h
def fX11_fail (a1 : Int32) (μ : Mem) : Option (Mem) :=
  if 0 < (μ.1 243 13) then
    some μ
  else
    nm (wI μ 243 13 a1) fun μ1 =>
    if inb (μ1.1 243 11) 403 then
    nm (wI μ1 243 14 (μ1.1 247 (μ1.1 243 11).toNatClampNeg)) fun μ2 =>
    some μ2
    else none
set_option maxRecDepth 100000 in
theorem wX11_fail (a1 : Int32) (μ : Mem) {res : Mem} (h : fX11_fail a1 μ = some res) : Ct mX11_fail 1 NF NF [.ref 243, .int a1] (μ, Rf0, NF) (QN none res Rf0 NF) := by
  unfold fX11_fail at h
  show RW mX11_fail 1 NF NF 0 [(0, .ref 243), (1, .int a1)] [] (μ, Rf0, NF) (QN none res Rf0 NF)
  refine rw_aload_n 0 dX11_fail_0 0 rfl ?_
  refine rw_getI 1 11 13 kc11 dX11_fail_1 ly_243 rln_243 fX11_206 rfl ?_
  refine rn_if_le 4 8 dX11_fail_4 (by decide) h (fun _ h => ?_) (fun _ h => ?_)
  · refine rw_aload_n 8 dX11_fail_8 0 rfl ?_
    refine rw_iload_n 9 dX11_fail_9 1 rfl ?_
    refine rn_putI 10 11 13 kc11 dX11_fail_10 ly_243 rln_243 fX11_206 (fun q hq => by cases hq; rfl) rfl rfl rfl h (fun μ1 h => ?_)
    refine rw_aload_n 13 dX11_fail_13 0 rfl ?_
    refine rw_aload_n 14 dX11_fail_14 0 rfl ?_
    refine rw_getR 15 11 6 kc11 dX11_fail_15 ly_243 rln_243 fX11_24 rfl rf_243_6 ?_
    refine rw_aload_n 18 dX11_fail_18 0 rfl ?_
    refine rw_getI 19 11 11 kc11 dX11_fail_19 ly_243 rln_243 fX11_209 rfl ?_
    refine rn_iald 22 dX11_fail_22 ly_247 rln_247 h (fun h => ?_)
    refine rn_putI 23 11 14 kc11 dX11_fail_23 ly_243 rln_243 fX11_212 (fun q hq => by cases hq; rfl) rfl rfl rfl h (fun μ2 h => ?_)
    exact rn_vret 26 dX11_fail_26 rfl h
  · exact rn_vret 7 dX11_fail_7 rfl h
def fX11_wrong (a1 : Int32) (a2 : Int32) (μ : Mem) : Option (Mem) :=
  if inb a2 403 then
  nm (μ.1 247 a2.toNatClampNeg) fun x1 =>
  if 0 < (μ.1 243 13) then
    some μ
  else
    if (μ.1 243 15) = 0 then
      nm (wI μ 243 15 a1) fun μ2 =>
      nm (wI μ2 243 16 x1) fun μ3 =>
      some μ3
    else
      if (μ.1 243 16) < x1 then
        some μ
      else
        if x1 = (μ.1 243 16) then
          if a1 < (μ.1 243 15) then
            nm (wI μ 243 15 a1) fun μ6 =>
            nm (wI μ6 243 16 x1) fun μ7 =>
            some μ7
          else
            some μ
        else
          nm (wI μ 243 15 a1) fun μ4 =>
          nm (wI μ4 243 16 x1) fun μ5 =>
          some μ5
  else none
set_option maxRecDepth 100000 in
theorem wX11_wrong (a1 : Int32) (a2 : Int32) (μ : Mem) {res : Mem} (h : fX11_wrong a1 a2 μ = some res) : Ct mX11_wrong 1 NF NF [.ref 243, .int a1, .int a2] (μ, Rf0, NF) (QN none res Rf0 NF) := by
  unfold fX11_wrong at h
  show RW mX11_wrong 1 NF NF 0 [(0, .ref 243), (1, .int a1), (2, .int a2)] [] (μ, Rf0, NF) (QN none res Rf0 NF)
  refine rw_aload_n 0 dX11_wrong_0 0 rfl ?_
  refine rw_getR 1 11 6 kc11 dX11_wrong_1 ly_243 rln_243 fX11_24 rfl rf_243_6 ?_
  refine rw_iload_n 4 dX11_wrong_4 2 rfl ?_
  refine rn_iald 5 dX11_wrong_5 ly_247 rln_247 h (fun h => ?_)
  refine rn_ist_n 6 (fun x1 => [(0, .ref 243), (1, .int a1), (2, .int a2), (3, .int x1)]) dX11_wrong_6 (by decide) (fun _ => rfl) h (fun x1 h => ?_)
  refine rw_aload_n 7 dX11_wrong_7 0 rfl ?_
  refine rw_getI 8 11 13 kc11 dX11_wrong_8 ly_243 rln_243 fX11_206 rfl ?_
  refine rn_if_gt 11 45 dX11_wrong_11 (by decide) h (fun _ h => ?_) (fun _ h => ?_)
  · exact rn_vret 45 dX11_wrong_45 rfl h
  · refine rw_aload_n 14 dX11_wrong_14 0 rfl ?_
    refine rw_getI 15 11 15 kc11 dX11_wrong_15 ly_243 rln_243 fX11_215 rfl ?_
    refine rn_if_eq 18 46 dX11_wrong_18 (by decide) h (fun _ h => ?_) (fun _ h => ?_)
    · refine rw_aload_n 46 dX11_wrong_46 0 rfl ?_
      refine rw_iload_n 47 dX11_wrong_47 1 rfl ?_
      refine rn_putI 48 11 15 kc11 dX11_wrong_48 ly_243 rln_243 fX11_215 (fun q hq => by cases hq; rfl) rfl rfl rfl h (fun μ2 h => ?_)
      refine rw_aload_n 51 dX11_wrong_51 0 rfl ?_
      refine rw_iload_n 52 dX11_wrong_52 3 rfl ?_
      refine rn_putI 53 11 16 kc11 dX11_wrong_53 ly_243 rln_243 fX11_218 (fun q hq => by cases hq; rfl) rfl rfl rfl h (fun μ3 h => ?_)
      exact rn_vret 56 dX11_wrong_56 rfl h
    · refine rw_iload_n 21 dX11_wrong_21 3 rfl ?_
      refine rw_aload_n 22 dX11_wrong_22 0 rfl ?_
      refine rw_getI 23 11 16 kc11 dX11_wrong_23 ly_243 rln_243 fX11_218 rfl ?_
      refine rn_icmp_gt 26 45 dX11_wrong_26 (by decide) h (fun _ h => ?_) (fun _ h => ?_)
      · exact rn_vret 45 dX11_wrong_45 rfl h
      · refine rw_iload_n 29 dX11_wrong_29 3 rfl ?_
        refine rw_aload_n 30 dX11_wrong_30 0 rfl ?_
        refine rw_getI 31 11 16 kc11 dX11_wrong_31 ly_243 rln_243 fX11_218 rfl ?_
        refine rn_icmp_ne 34 46 dX11_wrong_34 (by decide) h (fun _ h => ?_) (fun _ h => ?_)
        · refine rw_aload_n 46 dX11_wrong_46 0 rfl ?_
          refine rw_iload_n 47 dX11_wrong_47 1 rfl ?_
          refine rn_putI 48 11 15 kc11 dX11_wrong_48 ly_243 rln_243 fX11_215 (fun q hq => by cases hq; rfl) rfl rfl rfl h (fun μ4 h => ?_)
          refine rw_aload_n 51 dX11_wrong_51 0 rfl ?_
          refine rw_iload_n 52 dX11_wrong_52 3 rfl ?_
          refine rn_putI 53 11 16 kc11 dX11_wrong_53 ly_243 rln_243 fX11_218 (fun q hq => by cases hq; rfl) rfl rfl rfl h (fun μ5 h => ?_)
          exact rn_vret 56 dX11_wrong_56 rfl h
        · refine rw_iload_n 37 dX11_wrong_37 1 rfl ?_
          refine rw_aload_n 38 dX11_wrong_38 0 rfl ?_
          refine rw_getI 39 11 15 kc11 dX11_wrong_39 ly_243 rln_243 fX11_215 rfl ?_
          refine rn_icmp_lt 42 46 dX11_wrong_42 (by decide) h (fun _ h => ?_) (fun _ h => ?_)
          · refine rw_aload_n 46 dX11_wrong_46 0 rfl ?_
            refine rw_iload_n 47 dX11_wrong_47 1 rfl ?_
            refine rn_putI 48 11 15 kc11 dX11_wrong_48 ly_243 rln_243 fX11_215 (fun q hq => by cases hq; rfl) rfl rfl rfl h (fun μ6 h => ?_)
            refine rw_aload_n 51 dX11_wrong_51 0 rfl ?_
            refine rw_iload_n 52 dX11_wrong_52 3 rfl ?_
            refine rn_putI 53 11 16 kc11 dX11_wrong_53 ly_243 rln_243 fX11_218 (fun q hq => by cases hq; rfl) rfl rfl rfl h (fun μ7 h => ?_)
            exact rn_vret 56 dX11_wrong_56 rfl h
          · exact rn_vret 45 dX11_wrong_45 rfl h
def fX11_goesOn  (μ : Mem) : Option (Mem) :=
  if (μ.1 243 11) = 400 then
    (fX11_fail 2 μ).bind fun q2 =>
    some q2
  else
    nm (wI μ 243 11 ((μ.1 243 11) + 1)) fun μ1 =>
    some μ1
set_option maxRecDepth 100000 in
theorem wX11_goesOn  (μ : Mem) {res : Mem} (h : fX11_goesOn  μ = some res) : Ct mX11_goesOn 2 NF NF [.ref 243] (μ, Rf0, NF) (QN none res Rf0 NF) := by
  unfold fX11_goesOn at h
  show RW mX11_goesOn 2 NF NF 0 [(0, .ref 243)] [] (μ, Rf0, NF) (QN none res Rf0 NF)
  refine rw_aload_n 0 dX11_goesOn_0 0 rfl ?_
  refine rw_getI 1 11 11 kc11 dX11_goesOn_1 ly_243 rln_243 fX11_209 rfl ?_
  refine rw_sipush 4 (v := 400) dX11_goesOn_4 (by decide) ?_
  refine rn_icmp_ne 7 18 dX11_goesOn_7 (by decide) h (fun _ h => ?_) (fun _ h => ?_)
  · refine rw_aload_n 18 dX11_goesOn_18 0 rfl ?_
    refine rw_dup 19 dX11_goesOn_19 rfl ?_
    refine rw_getI 20 11 11 kc11 dX11_goesOn_20 ly_243 rln_243 fX11_209 rfl ?_
    refine rw_iconst 23 (v := 1) dX11_goesOn_23 (by decide) ?_
    refine rw_iadd 24 dX11_goesOn_24 ?_
    refine rn_putI 25 11 11 kc11 dX11_goesOn_25 ly_243 rln_243 fX11_209 (fun q hq => by cases hq; rfl) rfl rfl rfl h (fun μ1 h => ?_)
    exact rn_vret 28 dX11_goesOn_28 rfl h
  · refine rw_aload_n 10 dX11_goesOn_10 0 rfl ?_
    refine rw_iconst 11 (v := 2) dX11_goesOn_11 (by decide) ?_
    refine rn_cVmv 12 11 [.int 2] dX11_goesOn_12 caX11_fail lX11_221 inX11_fail slX11_fail rfl ly_243 ⟨_, rfl, rfl⟩ rln_243 naX11_fail (Nat.le_of_ble_eq_true rfl) (Nat.le_of_ble_eq_true rfl) (by decide) (fun _ hq => wX11_fail 2 μ hq) h (fun q2 h => ?_)
    refine rw_goto 15 28 dX11_goesOn_15 (by decide) ?_
    exact rn_vret 28 dX11_goesOn_28 rfl h
def fX11_must (a1 : Int32) (μ : Mem) : Option (Mem) :=
  (fX11_is a1 μ).bind fun q1 =>
  if q1 = true then
    (fX11_goesOn μ).bind fun q3 =>
    some q3
  else
    (fX11_fail 1 μ).bind fun q2 =>
    some q2
set_option maxRecDepth 100000 in
theorem wX11_must (a1 : Int32) (μ : Mem) {res : Mem} (h : fX11_must a1 μ = some res) : Ct mX11_must 3 NF NF [.ref 243, .int a1] (μ, Rf0, NF) (QN none res Rf0 NF) := by
  unfold fX11_must at h
  show RW mX11_must 3 NF NF 0 [(0, .ref 243), (1, .int a1)] [] (μ, Rf0, NF) (QN none res Rf0 NF)
  refine rw_aload_n 0 dX11_must_0 0 rfl ?_
  refine rw_iload_n 1 dX11_must_1 1 rfl ?_
  refine rn_cVpb 2 11 [.int a1] dX11_must_2 caX11_is lX11_224 inX11_is slX11_is rfl ly_243 ⟨_, rfl, rfl⟩ rln_243 naX11_is (Nat.le_of_ble_eq_true rfl) (Nat.le_of_ble_eq_true rfl) (by decide) (fun _ hq => wX11_is a1 μ hq) h (fun q1 h => ?_)
  refine rn_ifb_eq 5 15 dX11_must_5 (by decide) h (fun _ h => ?_) (fun _ h => ?_)
  · refine rw_aload_n 15 dX11_must_15 0 rfl ?_
    refine rw_iconst 16 (v := 1) dX11_must_16 (by decide) ?_
    refine rn_cVmv 17 11 [.int 1] dX11_must_17 caX11_fail lX11_221 inX11_fail slX11_fail rfl ly_243 ⟨_, rfl, rfl⟩ rln_243 naX11_fail (Nat.le_of_ble_eq_true rfl) (Nat.le_of_ble_eq_true rfl) (by decide) (fun _ hq => wX11_fail 1 μ hq) h (fun q2 h => ?_)
    exact rn_vret 20 dX11_must_20 rfl h
  · refine rw_aload_n 8 dX11_must_8 0 rfl ?_
    refine rn_cVmv 9 11 [] dX11_must_9 caX11_goesOn lX11_227 inX11_goesOn slX11_goesOn rfl ly_243 ⟨_, rfl, rfl⟩ rln_243 naX11_goesOn (Nat.le_of_ble_eq_true rfl) (Nat.le_of_ble_eq_true rfl) (by decide) (fun _ hq => wX11_goesOn μ hq) h (fun q3 h => ?_)
    refine rw_goto 12 20 dX11_must_12 (by decide) ?_
    exact rn_vret 20 dX11_must_20 rfl h
def fX11_roomFor (a1 : Int32) (a2 : Int32) (μ : Mem) : Option (Mem) :=
  if a1 = a2 then
    (fX11_fail 2 μ).bind fun q2 =>
    if (q2.1 243 13) = 0 then
      (fX11_goesOn q2).bind fun q3 =>
      some q3
    else
      some q2
  else
    if (μ.1 243 13) = 0 then
      (fX11_goesOn μ).bind fun q1 =>
      some q1
    else
      some μ
set_option maxRecDepth 100000 in
theorem wX11_roomFor (a1 : Int32) (a2 : Int32) (μ : Mem) {res : Mem} (h : fX11_roomFor a1 a2 μ = some res) : Ct mX11_roomFor 3 NF NF [.ref 243, .int a1, .int a2] (μ, Rf0, NF) (QN none res Rf0 NF) := by
  unfold fX11_roomFor at h
  show RW mX11_roomFor 3 NF NF 0 [(0, .ref 243), (1, .int a1), (2, .int a2)] [] (μ, Rf0, NF) (QN none res Rf0 NF)
  refine rw_iload_n 0 dX11_roomFor_0 1 rfl ?_
  refine rw_iload_n 1 dX11_roomFor_1 2 rfl ?_
  refine rn_icmp_ne 2 10 dX11_roomFor_2 (by decide) h (fun _ h => ?_) (fun _ h => ?_)
  · refine rw_aload_n 10 dX11_roomFor_10 0 rfl ?_
    refine rw_getI 11 11 13 kc11 dX11_roomFor_11 ly_243 rln_243 fX11_206 rfl ?_
    refine rn_if_ne 14 21 dX11_roomFor_14 (by decide) h (fun _ h => ?_) (fun _ h => ?_)
    · exact rn_vret 21 dX11_roomFor_21 rfl h
    · refine rw_aload_n 17 dX11_roomFor_17 0 rfl ?_
      refine rn_cVmv 18 11 [] dX11_roomFor_18 caX11_goesOn lX11_227 inX11_goesOn slX11_goesOn rfl ly_243 ⟨_, rfl, rfl⟩ rln_243 naX11_goesOn (Nat.le_of_ble_eq_true rfl) (Nat.le_of_ble_eq_true rfl) (by decide) (fun _ hq => wX11_goesOn μ hq) h (fun q1 h => ?_)
      exact rn_vret 21 dX11_roomFor_21 rfl h
  · refine rw_aload_n 5 dX11_roomFor_5 0 rfl ?_
    refine rw_iconst 6 (v := 2) dX11_roomFor_6 (by decide) ?_
    refine rn_cVmv 7 11 [.int 2] dX11_roomFor_7 caX11_fail lX11_221 inX11_fail slX11_fail rfl ly_243 ⟨_, rfl, rfl⟩ rln_243 naX11_fail (Nat.le_of_ble_eq_true rfl) (Nat.le_of_ble_eq_true rfl) (by decide) (fun _ hq => wX11_fail 2 μ hq) h (fun q2 h => ?_)
    refine rw_aload_n 10 dX11_roomFor_10 0 rfl ?_
    refine rw_getI 11 11 13 kc11 dX11_roomFor_11 ly_243 rln_243 fX11_206 rfl ?_
    refine rn_if_ne 14 21 dX11_roomFor_14 (by decide) h (fun _ h => ?_) (fun _ h => ?_)
    · exact rn_vret 21 dX11_roomFor_21 rfl h
    · refine rw_aload_n 17 dX11_roomFor_17 0 rfl ?_
      refine rn_cVmv 18 11 [] dX11_roomFor_18 caX11_goesOn lX11_227 inX11_goesOn slX11_goesOn rfl ly_243 ⟨_, rfl, rfl⟩ rln_243 naX11_goesOn (Nat.le_of_ble_eq_true rfl) (Nat.le_of_ble_eq_true rfl) (by decide) (fun _ hq => wX11_goesOn q2 hq) h (fun q3 h => ?_)
      exact rn_vret 21 dX11_roomFor_21 rfl h
def fX11_named_12   (v1 : Int32)  (K : Mem → Option (Int32 × Mem)) : Nat → Int32 → Mem → Option (Int32 × Mem)
  | 0, _, _ => none
  | n + 1, v2, μ =>
    if v2 < (μ.1 243 20) then
      if (μ.1 243 13) = 0 then
        if inb v2 11 then
        if inb v1 403 then
        if (μ.2 251 v2.toNatClampNeg) = (μ.2 249 v1.toNatClampNeg) then
          (fX11_wrong 3 v1 μ).bind fun q2 =>
          fX11_named_12 v1 K n (v2 + 1) q2
        else
          fX11_named_12 v1 K n (v2 + 1) μ
        else none
        else none
      else
        K μ
    else
      K μ
def fX11_named  (μ : Mem) : Option (Int32 × Mem) :=
  (fX11_must 1 μ).bind fun q1 =>
  fX11_named_12 (μ.1 243 11) (fun μ3 =>
      some ((μ.1 243 11), μ3)
  ) FU 0 q1
set_option maxRecDepth 100000 in
theorem wX11_named_12   (v1 : Int32)  (K : Mem → Option (Int32 × Mem)) {res : Int32 × Mem} (hK : ∀  (μ : Mem), K μ = some res → RW mX11_named 4 NF NF 55 [(1, .int v1)] [] (μ, Rf0, NF) (QN (some (.int res.1)) res.2 Rf0 NF)) : ∀ (n9 : Nat) (v2 : Int32) (μ : Mem), fX11_named_12 v1 K n9 v2 μ = some res → RW mX11_named 4 NF NF 12 [(0, .ref 243), (1, .int v1), (2, .int v2)] [] (μ, Rf0, NF) (QN (some (.int res.1)) res.2 Rf0 NF) := by
  intro n9
  induction n9 with
  | zero => intro _ _ h; cases h
  | succ n ih =>
    intro v2 μ h
    unfold fX11_named_12 at h
    refine rw_iload_n 12 dX11_named_12 2 rfl ?_
    refine rw_aload_n 13 dX11_named_13 0 rfl ?_
    refine rw_getI 14 11 20 kc11 dX11_named_14 ly_243 rln_243 fX11_242 rfl ?_
    refine rn_icmp_ge 17 55 dX11_named_17 (by decide) h (fun _ h => ?_) (fun _ h => ?_)
    · refine rw_pick 55 [1] rfl ?_
      exact hK μ h
    · refine rw_aload_n 20 dX11_named_20 0 rfl ?_
      refine rw_getI 21 11 13 kc11 dX11_named_21 ly_243 rln_243 fX11_206 rfl ?_
      refine rn_if_ne 24 55 dX11_named_24 (by decide) h (fun _ h => ?_) (fun _ h => ?_)
      · refine rw_pick 55 [1] rfl ?_
        exact hK μ h
      · refine rw_aload_n 27 dX11_named_27 0 rfl ?_
        refine rw_getR 28 11 21 kc11 dX11_named_28 ly_243 rln_243 fX11_40 rfl rf_243_21 ?_
        refine rw_iload_n 31 dX11_named_31 2 rfl ?_
        refine rn_lald 32 dX11_named_32 ly_251 rln_251 h (fun h => ?_)
        refine rw_aload_n 33 dX11_named_33 0 rfl ?_
        refine rw_getR 34 11 8 kc11 dX11_named_34 ly_243 rln_243 fX11_30 rfl rf_243_8 ?_
        refine rw_iload_n 37 dX11_named_37 1 rfl ?_
        refine rn_lald 38 dX11_named_38 ly_249 rln_249 h (fun h => ?_)
        refine rn_lcmp_ne 39 49 dX11_named_39 dX11_named_40 (by decide) h (fun _ h => ?_) (fun _ h => ?_)
        · refine rw_iinc 49 [(0, .ref 243), (1, .int v1), (2, .int (v2 + 1))] dX11_named_49 2 rfl rfl (by decide) rfl ?_
          refine rw_goto 52 12 dX11_named_52 (by decide) ?_
          exact ih (v2 + 1) μ h
        · refine rw_aload_n 43 dX11_named_43 0 rfl ?_
          refine rw_iconst 44 (v := 3) dX11_named_44 (by decide) ?_
          refine rw_iload_n 45 dX11_named_45 1 rfl ?_
          refine rn_cVmv 46 11 [.int 3, .int v1] dX11_named_46 caX11_wrong lX11_287 inX11_wrong slX11_wrong rfl ly_243 ⟨_, rfl, rfl⟩ rln_243 naX11_wrong (Nat.le_of_ble_eq_true rfl) (Nat.le_of_ble_eq_true rfl) (by decide) (fun _ hq => wX11_wrong 3 v1 μ hq) h (fun q2 h => ?_)
          refine rw_iinc 49 [(0, .ref 243), (1, .int v1), (2, .int (v2 + 1))] dX11_named_49 2 rfl rfl (by decide) rfl ?_
          refine rw_goto 52 12 dX11_named_52 (by decide) ?_
          exact ih (v2 + 1) q2 h
set_option maxRecDepth 100000 in
theorem wX11_named  (μ : Mem) {res : Int32 × Mem} (h : fX11_named  μ = some res) : Ct mX11_named 4 NF NF [.ref 243] (μ, Rf0, NF) (QN (some (.int res.1)) res.2 Rf0 NF) := by
  unfold fX11_named at h
  show RW mX11_named 4 NF NF 0 [(0, .ref 243)] [] (μ, Rf0, NF) (QN (some (.int res.1)) res.2 Rf0 NF)
  refine rw_aload_n 0 dX11_named_0 0 rfl ?_
  refine rw_getI 1 11 11 kc11 dX11_named_1 ly_243 rln_243 fX11_209 rfl ?_
  refine rw_istore_n 4 [(0, .ref 243), (1, .int (μ.1 243 11))] dX11_named_4 (by decide) rfl ?_
  refine rw_aload_n 5 dX11_named_5 0 rfl ?_
  refine rw_iconst 6 (v := 1) dX11_named_6 (by decide) ?_
  refine rn_cVmv 7 11 [.int 1] dX11_named_7 caX11_must lX11_264 inX11_must slX11_must rfl ly_243 ⟨_, rfl, rfl⟩ rln_243 naX11_must (Nat.le_of_ble_eq_true rfl) (Nat.le_of_ble_eq_true rfl) (by decide) (fun _ hq => wX11_must 1 μ hq) h (fun q1 h => ?_)
  refine rw_iconst 10 (v := 0) dX11_named_10 (by decide) ?_
  refine rw_istore_n 11 [(0, .ref 243), (1, .int (μ.1 243 11)), (2, .int 0)] dX11_named_11 (by decide) rfl ?_
  refine wX11_named_12 (μ.1 243 11) _ (fun μ3 h => ?_) FU 0 q1 h
  refine rw_iload_n 55 dX11_named_55 0 rfl ?_
  exact rn_iret2 56 dX11_named_56 rfl h
def fX11_bounded (a1 : Int32) (a2 : Int32) (μ : Mem) : Option (Int32 × Mem) :=
  if 0 < (μ.1 243 13) then
    (fX11_fail 1 μ).bind fun q1 =>
    some (a1, q1)
  else
    (fX11_is 2 μ).bind fun q2 =>
    if q2 = true then
      if inb (μ.1 243 11) 403 then
      nm (μ.1 248 (μ.1 243 11).toNatClampNeg) fun x3 =>
      if x3 < a1 then
        (fX11_wrong 5 (μ.1 243 11) μ).bind fun q4 =>
        (fX11_goesOn q4).bind fun q5 =>
        some (x3, q5)
      else
        if a2 < x3 then
          (fX11_wrong 5 (μ.1 243 11) μ).bind fun q7 =>
          (fX11_goesOn q7).bind fun q8 =>
          some (x3, q8)
        else
          (fX11_goesOn μ).bind fun q6 =>
          some (x3, q6)
      else none
    else
      (fX11_fail 1 μ).bind fun q9 =>
      some (a1, q9)
set_option maxRecDepth 100000 in
theorem wX11_bounded (a1 : Int32) (a2 : Int32) (μ : Mem) {res : Int32 × Mem} (h : fX11_bounded a1 a2 μ = some res) : Ct mX11_bounded 3 NF NF [.ref 243, .int a1, .int a2] (μ, Rf0, NF) (QN (some (.int res.1)) res.2 Rf0 NF) := by
  unfold fX11_bounded at h
  show RW mX11_bounded 3 NF NF 0 [(0, .ref 243), (1, .int a1), (2, .int a2)] [] (μ, Rf0, NF) (QN (some (.int res.1)) res.2 Rf0 NF)
  refine rw_aload_n 0 dX11_bounded_0 0 rfl ?_
  refine rw_getI 1 11 13 kc11 dX11_bounded_1 ly_243 rln_243 fX11_206 rfl ?_
  refine rn_if_gt 4 15 dX11_bounded_4 (by decide) h (fun _ h => ?_) (fun _ h => ?_)
  · refine rw_aload_n 15 dX11_bounded_15 0 rfl ?_
    refine rw_iconst 16 (v := 1) dX11_bounded_16 (by decide) ?_
    refine rn_cVmv 17 11 [.int 1] dX11_bounded_17 caX11_fail lX11_221 inX11_fail slX11_fail rfl ly_243 ⟨_, rfl, rfl⟩ rln_243 naX11_fail (Nat.le_of_ble_eq_true rfl) (Nat.le_of_ble_eq_true rfl) (by decide) (fun _ hq => wX11_fail 1 μ hq) h (fun q1 h => ?_)
    refine rw_iload_n 20 dX11_bounded_20 1 rfl ?_
    exact rn_iret2 21 dX11_bounded_21 rfl h
  · refine rw_aload_n 7 dX11_bounded_7 0 rfl ?_
    refine rw_iconst 8 (v := 2) dX11_bounded_8 (by decide) ?_
    refine rn_cVpb 9 11 [.int 2] dX11_bounded_9 caX11_is lX11_224 inX11_is slX11_is rfl ly_243 ⟨_, rfl, rfl⟩ rln_243 naX11_is (Nat.le_of_ble_eq_true rfl) (Nat.le_of_ble_eq_true rfl) (by decide) (fun _ hq => wX11_is 2 μ hq) h (fun q2 h => ?_)
    refine rn_ifb_ne 12 22 dX11_bounded_12 (by decide) h (fun _ h => ?_) (fun _ h => ?_)
    · refine rw_aload_n 22 dX11_bounded_22 0 rfl ?_
      refine rw_getR 23 11 7 kc11 dX11_bounded_23 ly_243 rln_243 fX11_27 rfl rf_243_7 ?_
      refine rw_aload_n 26 dX11_bounded_26 0 rfl ?_
      refine rw_getI 27 11 11 kc11 dX11_bounded_27 ly_243 rln_243 fX11_209 rfl ?_
      refine rn_iald 30 dX11_bounded_30 ly_248 rln_248 h (fun h => ?_)
      refine rn_ist_n 31 (fun x3 => [(0, .ref 243), (1, .int a1), (2, .int a2), (3, .int x3)]) dX11_bounded_31 (by decide) (fun _ => rfl) h (fun x3 h => ?_)
      refine rw_iload_n 32 dX11_bounded_32 3 rfl ?_
      refine rw_iload_n 33 dX11_bounded_33 1 rfl ?_
      refine rn_icmp_lt 34 42 dX11_bounded_34 (by decide) h (fun _ h => ?_) (fun _ h => ?_)
      · refine rw_aload_n 42 dX11_bounded_42 0 rfl ?_
        refine rw_iconst 43 (v := 5) dX11_bounded_43 (by decide) ?_
        refine rw_aload_n 44 dX11_bounded_44 0 rfl ?_
        refine rw_getI 45 11 11 kc11 dX11_bounded_45 ly_243 rln_243 fX11_209 rfl ?_
        refine rn_cVmv 48 11 [.int 5, .int (μ.1 243 11)] dX11_bounded_48 caX11_wrong lX11_287 inX11_wrong slX11_wrong rfl ly_243 ⟨_, rfl, rfl⟩ rln_243 naX11_wrong (Nat.le_of_ble_eq_true rfl) (Nat.le_of_ble_eq_true rfl) (by decide) (fun _ hq => wX11_wrong 5 (μ.1 243 11) μ hq) h (fun q4 h => ?_)
        refine rw_aload_n 51 dX11_bounded_51 0 rfl ?_
        refine rn_cVmv 52 11 [] dX11_bounded_52 caX11_goesOn lX11_227 inX11_goesOn slX11_goesOn rfl ly_243 ⟨_, rfl, rfl⟩ rln_243 naX11_goesOn (Nat.le_of_ble_eq_true rfl) (Nat.le_of_ble_eq_true rfl) (by decide) (fun _ hq => wX11_goesOn q4 hq) h (fun q5 h => ?_)
        refine rw_iload_n 55 dX11_bounded_55 3 rfl ?_
        exact rn_iret2 56 dX11_bounded_56 rfl h
      · refine rw_iload_n 37 dX11_bounded_37 3 rfl ?_
        refine rw_iload_n 38 dX11_bounded_38 2 rfl ?_
        refine rn_icmp_le 39 51 dX11_bounded_39 (by decide) h (fun _ h => ?_) (fun _ h => ?_)
        · refine rw_aload_n 51 dX11_bounded_51 0 rfl ?_
          refine rn_cVmv 52 11 [] dX11_bounded_52 caX11_goesOn lX11_227 inX11_goesOn slX11_goesOn rfl ly_243 ⟨_, rfl, rfl⟩ rln_243 naX11_goesOn (Nat.le_of_ble_eq_true rfl) (Nat.le_of_ble_eq_true rfl) (by decide) (fun _ hq => wX11_goesOn μ hq) h (fun q6 h => ?_)
          refine rw_iload_n 55 dX11_bounded_55 3 rfl ?_
          exact rn_iret2 56 dX11_bounded_56 rfl h
        · refine rw_aload_n 42 dX11_bounded_42 0 rfl ?_
          refine rw_iconst 43 (v := 5) dX11_bounded_43 (by decide) ?_
          refine rw_aload_n 44 dX11_bounded_44 0 rfl ?_
          refine rw_getI 45 11 11 kc11 dX11_bounded_45 ly_243 rln_243 fX11_209 rfl ?_
          refine rn_cVmv 48 11 [.int 5, .int (μ.1 243 11)] dX11_bounded_48 caX11_wrong lX11_287 inX11_wrong slX11_wrong rfl ly_243 ⟨_, rfl, rfl⟩ rln_243 naX11_wrong (Nat.le_of_ble_eq_true rfl) (Nat.le_of_ble_eq_true rfl) (by decide) (fun _ hq => wX11_wrong 5 (μ.1 243 11) μ hq) h (fun q7 h => ?_)
          refine rw_aload_n 51 dX11_bounded_51 0 rfl ?_
          refine rn_cVmv 52 11 [] dX11_bounded_52 caX11_goesOn lX11_227 inX11_goesOn slX11_goesOn rfl ly_243 ⟨_, rfl, rfl⟩ rln_243 naX11_goesOn (Nat.le_of_ble_eq_true rfl) (Nat.le_of_ble_eq_true rfl) (by decide) (fun _ hq => wX11_goesOn q7 hq) h (fun q8 h => ?_)
          refine rw_iload_n 55 dX11_bounded_55 3 rfl ?_
          exact rn_iret2 56 dX11_bounded_56 rfl h
    · refine rw_aload_n 15 dX11_bounded_15 0 rfl ?_
      refine rw_iconst 16 (v := 1) dX11_bounded_16 (by decide) ?_
      refine rn_cVmv 17 11 [.int 1] dX11_bounded_17 caX11_fail lX11_221 inX11_fail slX11_fail rfl ly_243 ⟨_, rfl, rfl⟩ rln_243 naX11_fail (Nat.le_of_ble_eq_true rfl) (Nat.le_of_ble_eq_true rfl) (by decide) (fun _ hq => wX11_fail 1 μ hq) h (fun q9 h => ?_)
      refine rw_iload_n 20 dX11_bounded_20 1 rfl ?_
      exact rn_iret2 21 dX11_bounded_21 rfl h
def fX11_endsName (a1 : Int32) (a2 : Int32) (μ : Mem) : Option (Mem) :=
  (fX11_must 4 μ).bind fun q1 =>
  if 0 < (q1.1 243 13) then
    some q1
  else
    if inb a1 403 then
    if inb (q1.1 243 20) 11 then nm (wJ q1 251 (q1.1 243 20).toNatClampNeg (q1.2 249 a1.toNatClampNeg)) fun μ2 =>
    if inb (μ2.1 243 20) 11 then nm (wI μ2 252 (μ2.1 243 20).toNatClampNeg a2) fun μ3 =>
    nm (wI μ3 243 20 ((μ3.1 243 20) + 1)) fun μ4 =>
    some μ4
    else none
    else none
    else none
set_option maxRecDepth 100000 in
theorem wX11_endsName (a1 : Int32) (a2 : Int32) (μ : Mem) {res : Mem} (h : fX11_endsName a1 a2 μ = some res) : Ct mX11_endsName 4 NF NF [.ref 243, .int a1, .int a2] (μ, Rf0, NF) (QN none res Rf0 NF) := by
  unfold fX11_endsName at h
  show RW mX11_endsName 4 NF NF 0 [(0, .ref 243), (1, .int a1), (2, .int a2)] [] (μ, Rf0, NF) (QN none res Rf0 NF)
  refine rw_aload_n 0 dX11_endsName_0 0 rfl ?_
  refine rw_iconst 1 (v := 4) dX11_endsName_1 (by decide) ?_
  refine rn_cVmv 2 11 [.int 4] dX11_endsName_2 caX11_must lX11_264 inX11_must slX11_must rfl ly_243 ⟨_, rfl, rfl⟩ rln_243 naX11_must (Nat.le_of_ble_eq_true rfl) (Nat.le_of_ble_eq_true rfl) (by decide) (fun _ hq => wX11_must 4 μ hq) h (fun q1 h => ?_)
  refine rw_aload_n 5 dX11_endsName_5 0 rfl ?_
  refine rw_getI 6 11 13 kc11 dX11_endsName_6 ly_243 rln_243 fX11_206 rfl ?_
  refine rn_if_le 9 13 dX11_endsName_9 (by decide) h (fun _ h => ?_) (fun _ h => ?_)
  · refine rw_aload_n 13 dX11_endsName_13 0 rfl ?_
    refine rw_getR 14 11 21 kc11 dX11_endsName_14 ly_243 rln_243 fX11_40 rfl rf_243_21 ?_
    refine rw_aload_n 17 dX11_endsName_17 0 rfl ?_
    refine rw_getI 18 11 20 kc11 dX11_endsName_18 ly_243 rln_243 fX11_242 rfl ?_
    refine rw_aload_n 21 dX11_endsName_21 0 rfl ?_
    refine rw_getR 22 11 8 kc11 dX11_endsName_22 ly_243 rln_243 fX11_30 rfl rf_243_8 ?_
    refine rw_iload_n 25 dX11_endsName_25 1 rfl ?_
    refine rn_lald 26 dX11_endsName_26 ly_249 rln_249 h (fun h => ?_)
    refine rn_last 27 dX11_endsName_27 ly_251 rln_251 h (fun μ2 h => ?_)
    refine rw_aload_n 28 dX11_endsName_28 0 rfl ?_
    refine rw_getR 29 11 22 kc11 dX11_endsName_29 ly_243 rln_243 fX11_43 rfl rf_243_22 ?_
    refine rw_aload_n 32 dX11_endsName_32 0 rfl ?_
    refine rw_getI 33 11 20 kc11 dX11_endsName_33 ly_243 rln_243 fX11_242 rfl ?_
    refine rw_iload_n 36 dX11_endsName_36 2 rfl ?_
    refine rn_iast 37 dX11_endsName_37 ly_252 rln_252 h (fun μ3 h => ?_)
    refine rw_aload_n 38 dX11_endsName_38 0 rfl ?_
    refine rw_dup 39 dX11_endsName_39 rfl ?_
    refine rw_getI 40 11 20 kc11 dX11_endsName_40 ly_243 rln_243 fX11_242 rfl ?_
    refine rw_iconst 43 (v := 1) dX11_endsName_43 (by decide) ?_
    refine rw_iadd 44 dX11_endsName_44 ?_
    refine rn_putI 45 11 20 kc11 dX11_endsName_45 ly_243 rln_243 fX11_242 (fun q hq => by cases hq; rfl) rfl rfl rfl h (fun μ4 h => ?_)
    exact rn_vret 48 dX11_endsName_48 rfl h
  · exact rn_vret 12 dX11_endsName_12 rfl h
def fX11_known_21   (v1 : Int32) (μ : Mem) (K : Unit → Option (Int32 × Mem)) : Nat → Int32 → Option (Int32 × Mem)
  | 0, _ => none
  | n + 1, v2 =>
    if v2 < (μ.1 243 20) then
      if inb v2 11 then
      if inb v1 403 then
      if (μ.2 251 v2.toNatClampNeg) = (μ.2 249 v1.toNatClampNeg) then
        if inb v2 11 then
        if (μ.1 252 v2.toNatClampNeg) < 10 then
          fX11_known_21 v1 μ K n (v2 + 1)
        else
          if inb v2 11 then
          some (((μ.1 252 v2.toNatClampNeg) - 10), μ)
          else none
        else none
      else
        fX11_known_21 v1 μ K n (v2 + 1)
      else none
      else none
    else
      K ()
def fX11_known  (μ : Mem) : Option (Int32 × Mem) :=
  (fX11_must 1 μ).bind fun q1 =>
  if 0 < (q1.1 243 13) then
    some ((-1), q1)
  else
    fX11_known_21 (μ.1 243 11) q1 (fun _ =>
        (fX11_wrong 4 (μ.1 243 11) q1).bind fun q2 =>
        some ((-1), q2)
    ) FU 0
set_option maxRecDepth 100000 in
theorem wX11_known_21   (v1 : Int32) (μ : Mem) (K : Unit → Option (Int32 × Mem)) {res : Int32 × Mem} (hK : ∀ (_ : Unit), K () = some res → RW mX11_known 4 NF NF 72 [(0, .ref 243), (1, .int v1)] [] (μ, Rf0, NF) (QN (some (.int res.1)) res.2 Rf0 NF)) : ∀ (n9 : Nat) (v2 : Int32), fX11_known_21 v1 μ K n9 v2 = some res → RW mX11_known 4 NF NF 21 [(0, .ref 243), (1, .int v1), (2, .int v2)] [] (μ, Rf0, NF) (QN (some (.int res.1)) res.2 Rf0 NF) := by
  intro n9
  induction n9 with
  | zero => intro _ h; cases h
  | succ n ih =>
    intro v2 h
    unfold fX11_known_21 at h
    refine rw_iload_n 21 dX11_known_21 2 rfl ?_
    refine rw_aload_n 22 dX11_known_22 0 rfl ?_
    refine rw_getI 23 11 20 kc11 dX11_known_23 ly_243 rln_243 fX11_242 rfl ?_
    refine rn_icmp_ge 26 72 dX11_known_26 (by decide) h (fun _ h => ?_) (fun _ h => ?_)
    · refine rw_pick 72 [0, 1] rfl ?_
      exact hK () h
    · refine rw_aload_n 29 dX11_known_29 0 rfl ?_
      refine rw_getR 30 11 21 kc11 dX11_known_30 ly_243 rln_243 fX11_40 rfl rf_243_21 ?_
      refine rw_iload_n 33 dX11_known_33 2 rfl ?_
      refine rn_lald 34 dX11_known_34 ly_251 rln_251 h (fun h => ?_)
      refine rw_aload_n 35 dX11_known_35 0 rfl ?_
      refine rw_getR 36 11 8 kc11 dX11_known_36 ly_243 rln_243 fX11_30 rfl rf_243_8 ?_
      refine rw_iload_n 39 dX11_known_39 1 rfl ?_
      refine rn_lald 40 dX11_known_40 ly_249 rln_249 h (fun h => ?_)
      refine rn_lcmp_ne 41 66 dX11_known_41 dX11_known_42 (by decide) h (fun _ h => ?_) (fun _ h => ?_)
      · refine rw_iinc 66 [(0, .ref 243), (1, .int v1), (2, .int (v2 + 1))] dX11_known_66 2 rfl rfl (by decide) rfl ?_
        refine rw_goto 69 21 dX11_known_69 (by decide) ?_
        exact ih (v2 + 1) h
      · refine rw_aload_n 45 dX11_known_45 0 rfl ?_
        refine rw_getR 46 11 22 kc11 dX11_known_46 ly_243 rln_243 fX11_43 rfl rf_243_22 ?_
        refine rw_iload_n 49 dX11_known_49 2 rfl ?_
        refine rn_iald 50 dX11_known_50 ly_252 rln_252 h (fun h => ?_)
        refine rw_bipush 51 (v := 10) dX11_known_51 (by decide) ?_
        refine rn_icmp_lt 53 66 dX11_known_53 (by decide) h (fun _ h => ?_) (fun _ h => ?_)
        · refine rw_iinc 66 [(0, .ref 243), (1, .int v1), (2, .int (v2 + 1))] dX11_known_66 2 rfl rfl (by decide) rfl ?_
          refine rw_goto 69 21 dX11_known_69 (by decide) ?_
          exact ih (v2 + 1) h
        · refine rw_aload_n 56 dX11_known_56 0 rfl ?_
          refine rw_getR 57 11 22 kc11 dX11_known_57 ly_243 rln_243 fX11_43 rfl rf_243_22 ?_
          refine rw_iload_n 60 dX11_known_60 2 rfl ?_
          refine rn_iald 61 dX11_known_61 ly_252 rln_252 h (fun h => ?_)
          refine rw_bipush 62 (v := 10) dX11_known_62 (by decide) ?_
          refine rw_isub 64 dX11_known_64 ?_
          exact rn_iret2 65 dX11_known_65 rfl h
set_option maxRecDepth 100000 in
theorem wX11_known  (μ : Mem) {res : Int32 × Mem} (h : fX11_known  μ = some res) : Ct mX11_known 4 NF NF [.ref 243] (μ, Rf0, NF) (QN (some (.int res.1)) res.2 Rf0 NF) := by
  unfold fX11_known at h
  show RW mX11_known 4 NF NF 0 [(0, .ref 243)] [] (μ, Rf0, NF) (QN (some (.int res.1)) res.2 Rf0 NF)
  refine rw_aload_n 0 dX11_known_0 0 rfl ?_
  refine rw_getI 1 11 11 kc11 dX11_known_1 ly_243 rln_243 fX11_209 rfl ?_
  refine rw_istore_n 4 [(0, .ref 243), (1, .int (μ.1 243 11))] dX11_known_4 (by decide) rfl ?_
  refine rw_aload_n 5 dX11_known_5 0 rfl ?_
  refine rw_iconst 6 (v := 1) dX11_known_6 (by decide) ?_
  refine rn_cVmv 7 11 [.int 1] dX11_known_7 caX11_must lX11_264 inX11_must slX11_must rfl ly_243 ⟨_, rfl, rfl⟩ rln_243 naX11_must (Nat.le_of_ble_eq_true rfl) (Nat.le_of_ble_eq_true rfl) (by decide) (fun _ hq => wX11_must 1 μ hq) h (fun q1 h => ?_)
  refine rw_aload_n 10 dX11_known_10 0 rfl ?_
  refine rw_getI 11 11 13 kc11 dX11_known_11 ly_243 rln_243 fX11_206 rfl ?_
  refine rn_if_le 14 19 dX11_known_14 (by decide) h (fun _ h => ?_) (fun _ h => ?_)
  · refine rw_iconst 19 (v := 0) dX11_known_19 (by decide) ?_
    refine rw_istore_n 20 [(0, .ref 243), (1, .int (μ.1 243 11)), (2, .int 0)] dX11_known_20 (by decide) rfl ?_
    refine wX11_known_21 (μ.1 243 11) q1 _ (fun _ h => ?_) FU 0 h
    refine rw_aload_n 72 dX11_known_72 0 rfl ?_
    refine rw_iconst 73 (v := 4) dX11_known_73 (by decide) ?_
    refine rw_iload_n 74 dX11_known_74 1 rfl ?_
    refine rn_cVmv 75 11 [.int 4, .int (μ.1 243 11)] dX11_known_75 caX11_wrong lX11_287 inX11_wrong slX11_wrong rfl ly_243 ⟨_, rfl, rfl⟩ rln_243 naX11_wrong (Nat.le_of_ble_eq_true rfl) (Nat.le_of_ble_eq_true rfl) (by decide) (fun _ hq => wX11_wrong 4 (μ.1 243 11) q1 hq) h (fun q2 h => ?_)
    refine rw_iconst 78 (v := -1) dX11_known_78 (by decide) ?_
    exact rn_iret2 79 dX11_known_79 rfl h
  · refine rw_iconst 17 (v := -1) dX11_known_17 (by decide) ?_
    exact rn_iret2 18 dX11_known_18 rfl h
def fX11_tellFoes_j75    (v1 : Int32) (v3 : Int32) (v4 : Int32) (μ : Mem) : Option (Mem) :=
  (fX11_must 4 μ).bind fun q4 =>
  if 0 < (q4.1 243 13) then
    some q4
  else
    if inb (q4.1 243 19) 2 then
    if inb (q4.1 243 19) 2 then nm (wI q4 261 (q4.1 243 19).toNatClampNeg ((q4.1 261 (q4.1 243 19).toNatClampNeg) + 1)) fun μ5 =>
    if v4 = 0 then
      some μ5
    else
      if inb ((7 * (μ5.1 243 19)) + v1) 14 then
      if inb ((7 * (μ5.1 243 19)) + v1) 14 then nm (wI μ5 260 ((7 * (μ5.1 243 19)) + v1).toNatClampNeg ((μ5.1 260 ((7 * (μ5.1 243 19)) + v1).toNatClampNeg) ||| ((1 : Int32) <<< (v3 &&& 31)))) fun μ6 =>
      if inb ((7 * (μ6.1 243 19)) + v3) 14 then
      if inb ((7 * (μ6.1 243 19)) + v3) 14 then nm (wI μ6 260 ((7 * (μ6.1 243 19)) + v3).toNatClampNeg ((μ6.1 260 ((7 * (μ6.1 243 19)) + v3).toNatClampNeg) ||| ((1 : Int32) <<< (v1 &&& 31)))) fun μ7 =>
      some μ7
      else none
      else none
      else none
      else none
    else none
    else none
def fX11_tellFoes_j35    (v1 : Int32) (v2 : Int32) (v3 : Int32) (s0 : Int32) (μ : Mem) : Option (Mem) :=
  if s0 = 0 then
    fX11_tellFoes_j75 v1 v3 s0 μ
  else
    if v1 = v3 then
      (fX11_wrong 3 v2 μ).bind fun q8 =>
      fX11_tellFoes_j75 v1 v3 s0 q8
    else
      if inb ((7 * (μ.1 243 19)) + v1) 14 then
      if (((μ.1 260 ((7 * (μ.1 243 19)) + v1).toNatClampNeg) >>> (v3 &&& 31)) &&& 1) = 1 then
        (fX11_wrong 3 v2 μ).bind fun q9 =>
        fX11_tellFoes_j75 v1 v3 s0 q9
      else
        fX11_tellFoes_j75 v1 v3 s0 μ
      else none
def fX11_tellFoes  (μ : Mem) : Option (Mem) :=
  (fX11_known μ).bind fun q1 =>
  nm (q1.2.1 243 11) fun x2 =>
  (fX11_known q1.2).bind fun q3 =>
  if (q3.2.1 243 13) = 0 then
    if q1.1 < 0 then
      fX11_tellFoes_j35 q1.1 x2 q3.1 0 q3.2
    else
      if q3.1 < 0 then
        fX11_tellFoes_j35 q1.1 x2 q3.1 0 q3.2
      else
        fX11_tellFoes_j35 q1.1 x2 q3.1 1 q3.2
  else
    fX11_tellFoes_j35 q1.1 x2 q3.1 0 q3.2
set_option maxRecDepth 100000 in
theorem wX11_tellFoes_j75   {res : Mem} (v1 : Int32) (v3 : Int32) (v4 : Int32) (μ : Mem)  (h : fX11_tellFoes_j75 v1 v3 v4 μ = some res) : RW mX11_tellFoes 5 NF NF 75 [(0, .ref 243), (1, .int v1), (3, .int v3), (4, .int v4)] [] (μ, Rf0, NF) (QN none res Rf0 NF) := by
  unfold fX11_tellFoes_j75 at h
  refine rw_aload_n 75 dX11_tellFoes_75 0 rfl ?_
  refine rw_iconst 76 (v := 4) dX11_tellFoes_76 (by decide) ?_
  refine rn_cVmv 77 11 [.int 4] dX11_tellFoes_77 caX11_must lX11_264 inX11_must slX11_must rfl ly_243 ⟨_, rfl, rfl⟩ rln_243 naX11_must (Nat.le_of_ble_eq_true rfl) (Nat.le_of_ble_eq_true rfl) (by decide) (fun _ hq => wX11_must 4 μ hq) h (fun q4 h => ?_)
  refine rw_aload_n 80 dX11_tellFoes_80 0 rfl ?_
  refine rw_getI 81 11 13 kc11 dX11_tellFoes_81 ly_243 rln_243 fX11_206 rfl ?_
  refine rn_if_le 84 88 dX11_tellFoes_84 (by decide) h (fun _ h => ?_) (fun _ h => ?_)
  · refine rw_aload_n 88 dX11_tellFoes_88 0 rfl ?_
    refine rw_getR 89 11 31 kc11 dX11_tellFoes_89 ly_243 rln_243 fX11_70 rfl rf_243_31 ?_
    refine rw_aload_n 92 dX11_tellFoes_92 0 rfl ?_
    refine rw_getI 93 11 19 kc11 dX11_tellFoes_93 ly_243 rln_243 fX11_239 rfl ?_
    refine rw_dup2 96 dX11_tellFoes_96 rfl rfl ?_
    refine rn_iald 97 dX11_tellFoes_97 ly_261 rln_261 h (fun h => ?_)
    refine rw_iconst 98 (v := 1) dX11_tellFoes_98 (by decide) ?_
    refine rw_iadd 99 dX11_tellFoes_99 ?_
    refine rn_iast 100 dX11_tellFoes_100 ly_261 rln_261 h (fun μ5 h => ?_)
    refine rw_iload 101 dX11_tellFoes_101 3 rfl ?_
    refine rn_if_ne 103 107 dX11_tellFoes_103 (by decide) h (fun _ h => ?_) (fun _ h => ?_)
    · refine rw_aload_n 107 dX11_tellFoes_107 0 rfl ?_
      refine rw_getR 108 11 30 kc11 dX11_tellFoes_108 ly_243 rln_243 fX11_67 rfl rf_243_30 ?_
      refine rw_bipush 111 (v := 7) dX11_tellFoes_111 (by decide) ?_
      refine rw_aload_n 113 dX11_tellFoes_113 0 rfl ?_
      refine rw_getI 114 11 19 kc11 dX11_tellFoes_114 ly_243 rln_243 fX11_239 rfl ?_
      refine rw_imul 117 dX11_tellFoes_117 ?_
      refine rw_iload_n 118 dX11_tellFoes_118 1 rfl ?_
      refine rw_iadd 119 dX11_tellFoes_119 ?_
      refine rw_dup2 120 dX11_tellFoes_120 rfl rfl ?_
      refine rn_iald 121 dX11_tellFoes_121 ly_260 rln_260 h (fun h => ?_)
      refine rw_iconst 122 (v := 1) dX11_tellFoes_122 (by decide) ?_
      refine rw_iload_n 123 dX11_tellFoes_123 2 rfl ?_
      refine rw_ishl 124 dX11_tellFoes_124 ?_
      refine rw_ior 125 dX11_tellFoes_125 ?_
      refine rn_iast 126 dX11_tellFoes_126 ly_260 rln_260 h (fun μ6 h => ?_)
      refine rw_aload_n 127 dX11_tellFoes_127 0 rfl ?_
      refine rw_getR 128 11 30 kc11 dX11_tellFoes_128 ly_243 rln_243 fX11_67 rfl rf_243_30 ?_
      refine rw_bipush 131 (v := 7) dX11_tellFoes_131 (by decide) ?_
      refine rw_aload_n 133 dX11_tellFoes_133 0 rfl ?_
      refine rw_getI 134 11 19 kc11 dX11_tellFoes_134 ly_243 rln_243 fX11_239 rfl ?_
      refine rw_imul 137 dX11_tellFoes_137 ?_
      refine rw_iload_n 138 dX11_tellFoes_138 2 rfl ?_
      refine rw_iadd 139 dX11_tellFoes_139 ?_
      refine rw_dup2 140 dX11_tellFoes_140 rfl rfl ?_
      refine rn_iald 141 dX11_tellFoes_141 ly_260 rln_260 h (fun h => ?_)
      refine rw_iconst 142 (v := 1) dX11_tellFoes_142 (by decide) ?_
      refine rw_iload_n 143 dX11_tellFoes_143 1 rfl ?_
      refine rw_ishl 144 dX11_tellFoes_144 ?_
      refine rw_ior 145 dX11_tellFoes_145 ?_
      refine rn_iast 146 dX11_tellFoes_146 ly_260 rln_260 h (fun μ7 h => ?_)
      exact rn_vret 147 dX11_tellFoes_147 rfl h
    · exact rn_vret 106 dX11_tellFoes_106 rfl h
  · exact rn_vret 87 dX11_tellFoes_87 rfl h
set_option maxRecDepth 100000 in
theorem wX11_tellFoes_j35   {res : Mem} (v1 : Int32) (v2 : Int32) (v3 : Int32) (s0 : Int32) (μ : Mem)  (h : fX11_tellFoes_j35 v1 v2 v3 s0 μ = some res) : RW mX11_tellFoes 5 NF NF 35 [(0, .ref 243), (1, .int v1), (2, .int v2), (3, .int v3)] [.int s0] (μ, Rf0, NF) (QN none res Rf0 NF) := by
  unfold fX11_tellFoes_j35 at h
  refine rw_istore 35 [(0, .ref 243), (1, .int v1), (2, .int v2), (3, .int v3), (4, .int s0)] dX11_tellFoes_35 (by decide) rfl ?_
  refine rw_iload 37 dX11_tellFoes_37 4 rfl ?_
  refine rn_if_eq 39 75 dX11_tellFoes_39 (by decide) h (fun _ h => ?_) (fun _ h => ?_)
  · refine rw_pick 75 [0, 1, 3, 4] rfl ?_
    exact wX11_tellFoes_j75 v1 v3 s0 μ h
  · refine rw_iload_n 42 dX11_tellFoes_42 1 rfl ?_
    refine rw_iload_n 43 dX11_tellFoes_43 3 rfl ?_
    refine rn_icmp_eq 44 69 dX11_tellFoes_44 (by decide) h (fun _ h => ?_) (fun _ h => ?_)
    · refine rw_aload_n 69 dX11_tellFoes_69 0 rfl ?_
      refine rw_iconst 70 (v := 3) dX11_tellFoes_70 (by decide) ?_
      refine rw_iload_n 71 dX11_tellFoes_71 2 rfl ?_
      refine rn_cVmv 72 11 [.int 3, .int v2] dX11_tellFoes_72 caX11_wrong lX11_287 inX11_wrong slX11_wrong rfl ly_243 ⟨_, rfl, rfl⟩ rln_243 naX11_wrong (Nat.le_of_ble_eq_true rfl) (Nat.le_of_ble_eq_true rfl) (by decide) (fun _ hq => wX11_wrong 3 v2 μ hq) h (fun q8 h => ?_)
      refine rw_pick 75 [0, 1, 3, 4] rfl ?_
      exact wX11_tellFoes_j75 v1 v3 s0 q8 h
    · refine rw_aload_n 47 dX11_tellFoes_47 0 rfl ?_
      refine rw_getR 48 11 30 kc11 dX11_tellFoes_48 ly_243 rln_243 fX11_67 rfl rf_243_30 ?_
      refine rw_bipush 51 (v := 7) dX11_tellFoes_51 (by decide) ?_
      refine rw_aload_n 53 dX11_tellFoes_53 0 rfl ?_
      refine rw_getI 54 11 19 kc11 dX11_tellFoes_54 ly_243 rln_243 fX11_239 rfl ?_
      refine rw_imul 57 dX11_tellFoes_57 ?_
      refine rw_iload_n 58 dX11_tellFoes_58 1 rfl ?_
      refine rw_iadd 59 dX11_tellFoes_59 ?_
      refine rn_iald 60 dX11_tellFoes_60 ly_260 rln_260 h (fun h => ?_)
      refine rw_iload_n 61 dX11_tellFoes_61 3 rfl ?_
      refine rw_ishr 62 dX11_tellFoes_62 ?_
      refine rw_iconst 63 (v := 1) dX11_tellFoes_63 (by decide) ?_
      refine rw_iand 64 dX11_tellFoes_64 ?_
      refine rw_iconst 65 (v := 1) dX11_tellFoes_65 (by decide) ?_
      refine rn_icmp_ne 66 75 dX11_tellFoes_66 (by decide) h (fun _ h => ?_) (fun _ h => ?_)
      · refine rw_pick 75 [0, 1, 3, 4] rfl ?_
        exact wX11_tellFoes_j75 v1 v3 s0 μ h
      · refine rw_aload_n 69 dX11_tellFoes_69 0 rfl ?_
        refine rw_iconst 70 (v := 3) dX11_tellFoes_70 (by decide) ?_
        refine rw_iload_n 71 dX11_tellFoes_71 2 rfl ?_
        refine rn_cVmv 72 11 [.int 3, .int v2] dX11_tellFoes_72 caX11_wrong lX11_287 inX11_wrong slX11_wrong rfl ly_243 ⟨_, rfl, rfl⟩ rln_243 naX11_wrong (Nat.le_of_ble_eq_true rfl) (Nat.le_of_ble_eq_true rfl) (by decide) (fun _ hq => wX11_wrong 3 v2 μ hq) h (fun q9 h => ?_)
        refine rw_pick 75 [0, 1, 3, 4] rfl ?_
        exact wX11_tellFoes_j75 v1 v3 s0 q9 h
set_option maxRecDepth 100000 in
theorem wX11_tellFoes  (μ : Mem) {res : Mem} (h : fX11_tellFoes  μ = some res) : Ct mX11_tellFoes 5 NF NF [.ref 243] (μ, Rf0, NF) (QN none res Rf0 NF) := by
  unfold fX11_tellFoes at h
  show RW mX11_tellFoes 5 NF NF 0 [(0, .ref 243)] [] (μ, Rf0, NF) (QN none res Rf0 NF)
  refine rw_aload_n 0 dX11_tellFoes_0 0 rfl ?_
  refine rn_cVmi 1 11 [] dX11_tellFoes_1 caX11_known lX11_290 inX11_known slX11_known rfl ly_243 ⟨_, rfl, rfl⟩ rln_243 naX11_known (Nat.le_of_ble_eq_true rfl) (Nat.le_of_ble_eq_true rfl) (by decide) (fun _ hq => wX11_known μ hq) h (fun q1 h => ?_)
  refine rw_istore_n 4 [(0, .ref 243), (1, .int q1.1)] dX11_tellFoes_4 (by decide) rfl ?_
  refine rw_aload_n 5 dX11_tellFoes_5 0 rfl ?_
  refine rw_getI 6 11 11 kc11 dX11_tellFoes_6 ly_243 rln_243 fX11_209 rfl ?_
  refine rn_ist_n 9 (fun x2 => [(0, .ref 243), (1, .int q1.1), (2, .int x2)]) dX11_tellFoes_9 (by decide) (fun _ => rfl) h (fun x2 h => ?_)
  refine rw_aload_n 10 dX11_tellFoes_10 0 rfl ?_
  refine rn_cVmi 11 11 [] dX11_tellFoes_11 caX11_known lX11_290 inX11_known slX11_known rfl ly_243 ⟨_, rfl, rfl⟩ rln_243 naX11_known (Nat.le_of_ble_eq_true rfl) (Nat.le_of_ble_eq_true rfl) (by decide) (fun _ hq => wX11_known q1.2 hq) h (fun q3 h => ?_)
  refine rw_istore_n 14 [(0, .ref 243), (1, .int q1.1), (2, .int x2), (3, .int q3.1)] dX11_tellFoes_14 (by decide) rfl ?_
  refine rw_aload_n 15 dX11_tellFoes_15 0 rfl ?_
  refine rw_getI 16 11 13 kc11 dX11_tellFoes_16 ly_243 rln_243 fX11_206 rfl ?_
  refine rn_if_ne 19 34 dX11_tellFoes_19 (by decide) h (fun _ h => ?_) (fun _ h => ?_)
  · refine rw_iconst 34 (v := 0) dX11_tellFoes_34 (by decide) ?_
    exact wX11_tellFoes_j35 q1.1 x2 q3.1 0 q3.2 h
  · refine rw_iload_n 22 dX11_tellFoes_22 1 rfl ?_
    refine rn_if_lt 23 34 dX11_tellFoes_23 (by decide) h (fun _ h => ?_) (fun _ h => ?_)
    · refine rw_iconst 34 (v := 0) dX11_tellFoes_34 (by decide) ?_
      exact wX11_tellFoes_j35 q1.1 x2 q3.1 0 q3.2 h
    · refine rw_iload_n 26 dX11_tellFoes_26 3 rfl ?_
      refine rn_if_lt 27 34 dX11_tellFoes_27 (by decide) h (fun _ h => ?_) (fun _ h => ?_)
      · refine rw_iconst 34 (v := 0) dX11_tellFoes_34 (by decide) ?_
        exact wX11_tellFoes_j35 q1.1 x2 q3.1 0 q3.2 h
      · refine rw_iconst 30 (v := 1) dX11_tellFoes_30 (by decide) ?_
        refine rw_goto 31 35 dX11_tellFoes_31 (by decide) ?_
        exact wX11_tellFoes_j35 q1.1 x2 q3.1 1 q3.2 h
def fX11_toldInt (a1 : Int32) (a2 : Int32) (μ : Mem) : Option (Int32 × Mem) :=
  (fX11_goesOn μ).bind fun q1 =>
  (fX11_bounded a1 a2 q1).bind fun q2 =>
  (fX11_must 4 q2.2).bind fun q3 =>
  some (q2.1, q3)
set_option maxRecDepth 100000 in
theorem wX11_toldInt (a1 : Int32) (a2 : Int32) (μ : Mem) {res : Int32 × Mem} (h : fX11_toldInt a1 a2 μ = some res) : Ct mX11_toldInt 4 NF NF [.ref 243, .int a1, .int a2] (μ, Rf0, NF) (QN (some (.int res.1)) res.2 Rf0 NF) := by
  unfold fX11_toldInt at h
  show RW mX11_toldInt 4 NF NF 0 [(0, .ref 243), (1, .int a1), (2, .int a2)] [] (μ, Rf0, NF) (QN (some (.int res.1)) res.2 Rf0 NF)
  refine rw_aload_n 0 dX11_toldInt_0 0 rfl ?_
  refine rn_cVmv 1 11 [] dX11_toldInt_1 caX11_goesOn lX11_227 inX11_goesOn slX11_goesOn rfl ly_243 ⟨_, rfl, rfl⟩ rln_243 naX11_goesOn (Nat.le_of_ble_eq_true rfl) (Nat.le_of_ble_eq_true rfl) (by decide) (fun _ hq => wX11_goesOn μ hq) h (fun q1 h => ?_)
  refine rw_aload_n 4 dX11_toldInt_4 0 rfl ?_
  refine rw_iload_n 5 dX11_toldInt_5 1 rfl ?_
  refine rw_iload_n 6 dX11_toldInt_6 2 rfl ?_
  refine rn_cVmi 7 11 [.int a1, .int a2] dX11_toldInt_7 caX11_bounded lX11_260 inX11_bounded slX11_bounded rfl ly_243 ⟨_, rfl, rfl⟩ rln_243 naX11_bounded (Nat.le_of_ble_eq_true rfl) (Nat.le_of_ble_eq_true rfl) (by decide) (fun _ hq => wX11_bounded a1 a2 q1 hq) h (fun q2 h => ?_)
  refine rw_istore_n 10 [(0, .ref 243), (1, .int a1), (2, .int a2), (3, .int q2.1)] dX11_toldInt_10 (by decide) rfl ?_
  refine rw_aload_n 11 dX11_toldInt_11 0 rfl ?_
  refine rw_iconst 12 (v := 4) dX11_toldInt_12 (by decide) ?_
  refine rn_cVmv 13 11 [.int 4] dX11_toldInt_13 caX11_must lX11_264 inX11_must slX11_must rfl ly_243 ⟨_, rfl, rfl⟩ rln_243 naX11_must (Nat.le_of_ble_eq_true rfl) (Nat.le_of_ble_eq_true rfl) (by decide) (fun _ hq => wX11_must 4 q2.2 hq) h (fun q3 h => ?_)
  refine rw_iload_n 16 dX11_toldInt_16 3 rfl ?_
  exact rn_iret2 17 dX11_toldInt_17 rfl h
def fX11_emit (a1 : Int32) (a2 : Int32) (μ : Mem) : Option (Mem) :=
  if inb (μ.1 243 42) 840 then nm (wI μ 271 (μ.1 243 42).toNatClampNeg a1) fun μ1 =>
  if inb (μ1.1 243 42) 840 then nm (wI μ1 272 (μ1.1 243 42).toNatClampNeg a2) fun μ2 =>
  nm (wI μ2 243 42 ((μ2.1 243 42) + 1)) fun μ3 =>
  some μ3
  else none
  else none
set_option maxRecDepth 100000 in
theorem wX11_emit (a1 : Int32) (a2 : Int32) (μ : Mem) {res : Mem} (h : fX11_emit a1 a2 μ = some res) : Ct mX11_emit 1 NF NF [.ref 243, .int a1, .int a2] (μ, Rf0, NF) (QN none res Rf0 NF) := by
  unfold fX11_emit at h
  show RW mX11_emit 1 NF NF 0 [(0, .ref 243), (1, .int a1), (2, .int a2)] [] (μ, Rf0, NF) (QN none res Rf0 NF)
  refine rw_aload_n 0 dX11_emit_0 0 rfl ?_
  refine rw_getR 1 11 43 kc11 dX11_emit_1 ly_243 rln_243 fX11_101 rfl rf_243_43 ?_
  refine rw_aload_n 4 dX11_emit_4 0 rfl ?_
  refine rw_getI 5 11 42 kc11 dX11_emit_5 ly_243 rln_243 fX11_248 rfl ?_
  refine rw_iload_n 8 dX11_emit_8 1 rfl ?_
  refine rn_iast 9 dX11_emit_9 ly_271 rln_271 h (fun μ1 h => ?_)
  refine rw_aload_n 10 dX11_emit_10 0 rfl ?_
  refine rw_getR 11 11 44 kc11 dX11_emit_11 ly_243 rln_243 fX11_104 rfl rf_243_44 ?_
  refine rw_aload_n 14 dX11_emit_14 0 rfl ?_
  refine rw_getI 15 11 42 kc11 dX11_emit_15 ly_243 rln_243 fX11_248 rfl ?_
  refine rw_iload_n 18 dX11_emit_18 2 rfl ?_
  refine rn_iast 19 dX11_emit_19 ly_272 rln_272 h (fun μ2 h => ?_)
  refine rw_aload_n 20 dX11_emit_20 0 rfl ?_
  refine rw_dup 21 dX11_emit_21 rfl ?_
  refine rw_getI 22 11 42 kc11 dX11_emit_22 ly_243 rln_243 fX11_248 rfl ?_
  refine rw_iconst 25 (v := 1) dX11_emit_25 (by decide) ?_
  refine rw_iadd 26 dX11_emit_26 ?_
  refine rn_putI 27 11 42 kc11 dX11_emit_27 ly_243 rln_243 fX11_248 (fun q hq => by cases hq; rfl) rfl rfl rfl h (fun μ3 h => ?_)
  exact rn_vret 30 dX11_emit_30 rfl h
def fX11_unit  (μ : Mem) : Option (Mem) :=
  (fX11_is 2 μ).bind fun q1 =>
  if q1 = true then
    if inb (μ.1 243 11) 403 then
    (fX11_emit 0 (μ.1 248 (μ.1 243 11).toNatClampNeg) μ).bind fun q7 =>
    (fX11_goesOn q7).bind fun q8 =>
    some q8
    else none
  else
    if (μ.1 243 13) = 0 then
      if inb (μ.1 243 11) 403 then
      if (μ.1 246 (μ.1 243 11).toNatClampNeg) < 32 then
        (fX11_fail 1 μ).bind fun q3 =>
        some q3
      else
        if inb (μ.1 243 11) 403 then
        if 40 < (μ.1 246 (μ.1 243 11).toNatClampNeg) then
          (fX11_fail 1 μ).bind fun q4 =>
          some q4
        else
          if inb (μ.1 243 11) 403 then
          (fX11_emit 1 ((μ.1 246 (μ.1 243 11).toNatClampNeg) - 32) μ).bind fun q5 =>
          (fX11_goesOn q5).bind fun q6 =>
          some q6
          else none
        else none
      else none
    else
      (fX11_fail 1 μ).bind fun q2 =>
      some q2
set_option maxRecDepth 100000 in
theorem wX11_unit  (μ : Mem) {res : Mem} (h : fX11_unit  μ = some res) : Ct mX11_unit 3 NF NF [.ref 243] (μ, Rf0, NF) (QN none res Rf0 NF) := by
  unfold fX11_unit at h
  show RW mX11_unit 3 NF NF 0 [(0, .ref 243)] [] (μ, Rf0, NF) (QN none res Rf0 NF)
  refine rw_aload_n 0 dX11_unit_0 0 rfl ?_
  refine rw_iconst 1 (v := 2) dX11_unit_1 (by decide) ?_
  refine rn_cVpb 2 11 [.int 2] dX11_unit_2 caX11_is lX11_224 inX11_is slX11_is rfl ly_243 ⟨_, rfl, rfl⟩ rln_243 naX11_is (Nat.le_of_ble_eq_true rfl) (Nat.le_of_ble_eq_true rfl) (by decide) (fun _ hq => wX11_is 2 μ hq) h (fun q1 h => ?_)
  refine rn_ifb_eq 5 29 dX11_unit_5 (by decide) h (fun _ h => ?_) (fun _ h => ?_)
  · refine rw_aload_n 29 dX11_unit_29 0 rfl ?_
    refine rw_getI 30 11 13 kc11 dX11_unit_30 ly_243 rln_243 fX11_206 rfl ?_
    refine rn_if_ne 33 88 dX11_unit_33 (by decide) h (fun _ h => ?_) (fun _ h => ?_)
    · refine rw_aload_n 88 dX11_unit_88 0 rfl ?_
      refine rw_iconst 89 (v := 1) dX11_unit_89 (by decide) ?_
      refine rn_cVmv 90 11 [.int 1] dX11_unit_90 caX11_fail lX11_221 inX11_fail slX11_fail rfl ly_243 ⟨_, rfl, rfl⟩ rln_243 naX11_fail (Nat.le_of_ble_eq_true rfl) (Nat.le_of_ble_eq_true rfl) (by decide) (fun _ hq => wX11_fail 1 μ hq) h (fun q2 h => ?_)
      exact rn_vret 93 dX11_unit_93 rfl h
    · refine rw_aload_n 36 dX11_unit_36 0 rfl ?_
      refine rw_getR 37 11 5 kc11 dX11_unit_37 ly_243 rln_243 fX11_20 rfl rf_243_5 ?_
      refine rw_aload_n 40 dX11_unit_40 0 rfl ?_
      refine rw_getI 41 11 11 kc11 dX11_unit_41 ly_243 rln_243 fX11_209 rfl ?_
      refine rn_iald 44 dX11_unit_44 ly_246 rln_246 h (fun h => ?_)
      refine rw_bipush 45 (v := 32) dX11_unit_45 (by decide) ?_
      refine rn_icmp_lt 47 88 dX11_unit_47 (by decide) h (fun _ h => ?_) (fun _ h => ?_)
      · refine rw_aload_n 88 dX11_unit_88 0 rfl ?_
        refine rw_iconst 89 (v := 1) dX11_unit_89 (by decide) ?_
        refine rn_cVmv 90 11 [.int 1] dX11_unit_90 caX11_fail lX11_221 inX11_fail slX11_fail rfl ly_243 ⟨_, rfl, rfl⟩ rln_243 naX11_fail (Nat.le_of_ble_eq_true rfl) (Nat.le_of_ble_eq_true rfl) (by decide) (fun _ hq => wX11_fail 1 μ hq) h (fun q3 h => ?_)
        exact rn_vret 93 dX11_unit_93 rfl h
      · refine rw_aload_n 50 dX11_unit_50 0 rfl ?_
        refine rw_getR 51 11 5 kc11 dX11_unit_51 ly_243 rln_243 fX11_20 rfl rf_243_5 ?_
        refine rw_aload_n 54 dX11_unit_54 0 rfl ?_
        refine rw_getI 55 11 11 kc11 dX11_unit_55 ly_243 rln_243 fX11_209 rfl ?_
        refine rn_iald 58 dX11_unit_58 ly_246 rln_246 h (fun h => ?_)
        refine rw_bipush 59 (v := 40) dX11_unit_59 (by decide) ?_
        refine rn_icmp_gt 61 88 dX11_unit_61 (by decide) h (fun _ h => ?_) (fun _ h => ?_)
        · refine rw_aload_n 88 dX11_unit_88 0 rfl ?_
          refine rw_iconst 89 (v := 1) dX11_unit_89 (by decide) ?_
          refine rn_cVmv 90 11 [.int 1] dX11_unit_90 caX11_fail lX11_221 inX11_fail slX11_fail rfl ly_243 ⟨_, rfl, rfl⟩ rln_243 naX11_fail (Nat.le_of_ble_eq_true rfl) (Nat.le_of_ble_eq_true rfl) (by decide) (fun _ hq => wX11_fail 1 μ hq) h (fun q4 h => ?_)
          exact rn_vret 93 dX11_unit_93 rfl h
        · refine rw_aload_n 64 dX11_unit_64 0 rfl ?_
          refine rw_iconst 65 (v := 1) dX11_unit_65 (by decide) ?_
          refine rw_aload_n 66 dX11_unit_66 0 rfl ?_
          refine rw_getR 67 11 5 kc11 dX11_unit_67 ly_243 rln_243 fX11_20 rfl rf_243_5 ?_
          refine rw_aload_n 70 dX11_unit_70 0 rfl ?_
          refine rw_getI 71 11 11 kc11 dX11_unit_71 ly_243 rln_243 fX11_209 rfl ?_
          refine rn_iald 74 dX11_unit_74 ly_246 rln_246 h (fun h => ?_)
          refine rw_bipush 75 (v := 32) dX11_unit_75 (by decide) ?_
          refine rw_isub 77 dX11_unit_77 ?_
          refine rn_cVmv 78 11 [.int 1, .int ((μ.1 246 (μ.1 243 11).toNatClampNeg) - 32)] dX11_unit_78 caX11_emit lX11_302 inX11_emit slX11_emit rfl ly_243 ⟨_, rfl, rfl⟩ rln_243 naX11_emit (Nat.le_of_ble_eq_true rfl) (Nat.le_of_ble_eq_true rfl) (by decide) (fun _ hq => wX11_emit 1 ((μ.1 246 (μ.1 243 11).toNatClampNeg) - 32) μ hq) h (fun q5 h => ?_)
          refine rw_aload_n 81 dX11_unit_81 0 rfl ?_
          refine rn_cVmv 82 11 [] dX11_unit_82 caX11_goesOn lX11_227 inX11_goesOn slX11_goesOn rfl ly_243 ⟨_, rfl, rfl⟩ rln_243 naX11_goesOn (Nat.le_of_ble_eq_true rfl) (Nat.le_of_ble_eq_true rfl) (by decide) (fun _ hq => wX11_goesOn q5 hq) h (fun q6 h => ?_)
          refine rw_goto 85 93 dX11_unit_85 (by decide) ?_
          exact rn_vret 93 dX11_unit_93 rfl h
  · refine rw_aload_n 8 dX11_unit_8 0 rfl ?_
    refine rw_iconst 9 (v := 0) dX11_unit_9 (by decide) ?_
    refine rw_aload_n 10 dX11_unit_10 0 rfl ?_
    refine rw_getR 11 11 7 kc11 dX11_unit_11 ly_243 rln_243 fX11_27 rfl rf_243_7 ?_
    refine rw_aload_n 14 dX11_unit_14 0 rfl ?_
    refine rw_getI 15 11 11 kc11 dX11_unit_15 ly_243 rln_243 fX11_209 rfl ?_
    refine rn_iald 18 dX11_unit_18 ly_248 rln_248 h (fun h => ?_)
    refine rn_cVmv 19 11 [.int 0, .int (μ.1 248 (μ.1 243 11).toNatClampNeg)] dX11_unit_19 caX11_emit lX11_302 inX11_emit slX11_emit rfl ly_243 ⟨_, rfl, rfl⟩ rln_243 naX11_emit (Nat.le_of_ble_eq_true rfl) (Nat.le_of_ble_eq_true rfl) (by decide) (fun _ hq => wX11_emit 0 (μ.1 248 (μ.1 243 11).toNatClampNeg) μ hq) h (fun q7 h => ?_)
    refine rw_aload_n 22 dX11_unit_22 0 rfl ?_
    refine rn_cVmv 23 11 [] dX11_unit_23 caX11_goesOn lX11_227 inX11_goesOn slX11_goesOn rfl ly_243 ⟨_, rfl, rfl⟩ rln_243 naX11_goesOn (Nat.le_of_ble_eq_true rfl) (Nat.le_of_ble_eq_true rfl) (by decide) (fun _ hq => wX11_goesOn q7 hq) h (fun q8 h => ?_)
    refine rw_goto 26 93 dX11_unit_26 (by decide) ?_
    exact rn_vret 93 dX11_unit_93 rfl h
def fX11_comesOut_j42_0   (KB : Mem → Option (Mem)) (K : Mem → Option (Mem)) (v1 : Int32) (v2 : Int32) (μ : Mem) : Option (Mem) :=
  nm (wI μ 243 46 ((μ.1 243 46) - 1)) fun μ2 =>
  if v2 = 8 then
    (fX11_emit 2 0 μ2).bind fun q6 =>
    KB q6
  else
    if v2 = 9 then
      (fX11_emit 3 0 μ2).bind fun q5 =>
      KB q5
    else
      if v2 = 10 then
        (fX11_emit 4 0 μ2).bind fun q4 =>
        KB q4
      else
        (fX11_emit 5 0 μ2).bind fun q3 =>
        KB q3
def fX11_comesOut_0   (v1 : Int32)  (K : Mem → Option (Mem)) : Nat → Mem → Option (Mem)
  | 0, _ => none
  | n + 1, μ =>
    if 0 < (μ.1 243 46) then
      if inb ((μ.1 243 46) - 1) 64 then
      nm (μ.1 273 ((μ.1 243 46) - 1).toNatClampNeg) fun x1 =>
      if x1 = 6 then
        some μ
      else
        if v1 = 0 then
          fX11_comesOut_j42_0 (fun zm => fX11_comesOut_0 v1 K n zm) K v1 x1 μ
        else
          if x1 = 8 then
            some μ
          else
            if x1 = 9 then
              some μ
            else
              fX11_comesOut_j42_0 (fun zm => fX11_comesOut_0 v1 K n zm) K v1 x1 μ
      else none
    else
      K μ
def fX11_comesOut (a1 : Int32) (μ : Mem) : Option (Mem) :=
  fX11_comesOut_0 a1 (fun μ7 =>
      some μ7
  ) FU μ
set_option maxRecDepth 100000 in
theorem wX11_comesOut_j42_0   {res : Mem} (v1 : Int32) (v2 : Int32) (μ : Mem) (KB : Mem → Option (Mem)) (hB : ∀ (um : Mem), KB um = some res → RW mX11_comesOut 2 NF NF 0 [(0, .ref 243), (1, .int v1)] [] (um, Rf0, NF) (QN none res Rf0 NF)) (K : Mem → Option (Mem)) (hK : ∀ (um : Mem), K um = some res → RW mX11_comesOut 2 NF NF 91 [] [] (um, Rf0, NF) (QN none res Rf0 NF)) (h : fX11_comesOut_j42_0 KB K v1 v2 μ = some res) : RW mX11_comesOut 2 NF NF 42 [(0, .ref 243), (1, .int v1), (2, .int v2)] [] (μ, Rf0, NF) (QN none res Rf0 NF) := by
  unfold fX11_comesOut_j42_0 at h
  refine rw_aload_n 42 dX11_comesOut_42 0 rfl ?_
  refine rw_dup 43 dX11_comesOut_43 rfl ?_
  refine rw_getI 44 11 46 kc11 dX11_comesOut_44 ly_243 rln_243 fX11_299 rfl ?_
  refine rw_iconst 47 (v := 1) dX11_comesOut_47 (by decide) ?_
  refine rw_isub 48 dX11_comesOut_48 ?_
  refine rn_putI 49 11 46 kc11 dX11_comesOut_49 ly_243 rln_243 fX11_299 (fun q hq => by cases hq; rfl) rfl rfl rfl h (fun μ2 h => ?_)
  refine rw_aload_n 52 dX11_comesOut_52 0 rfl ?_
  refine rw_iload_n 53 dX11_comesOut_53 2 rfl ?_
  refine rw_bipush 54 (v := 8) dX11_comesOut_54 (by decide) ?_
  refine rn_icmp_ne 56 63 dX11_comesOut_56 (by decide) h (fun _ h => ?_) (fun _ h => ?_)
  · refine rw_iload_n 63 dX11_comesOut_63 2 rfl ?_
    refine rw_bipush 64 (v := 9) dX11_comesOut_64 (by decide) ?_
    refine rn_icmp_ne 66 73 dX11_comesOut_66 (by decide) h (fun _ h => ?_) (fun _ h => ?_)
    · refine rw_iload_n 73 dX11_comesOut_73 2 rfl ?_
      refine rw_bipush 74 (v := 10) dX11_comesOut_74 (by decide) ?_
      refine rn_icmp_ne 76 83 dX11_comesOut_76 (by decide) h (fun _ h => ?_) (fun _ h => ?_)
      · refine rw_iconst 83 (v := 5) dX11_comesOut_83 (by decide) ?_
        refine rw_iconst 84 (v := 0) dX11_comesOut_84 (by decide) ?_
        refine rn_cVmv 85 11 [.int 5, .int 0] dX11_comesOut_85 caX11_emit lX11_302 inX11_emit slX11_emit rfl ly_243 ⟨_, rfl, rfl⟩ rln_243 naX11_emit (Nat.le_of_ble_eq_true rfl) (Nat.le_of_ble_eq_true rfl) (by decide) (fun _ hq => wX11_emit 5 0 μ2 hq) h (fun q3 h => ?_)
        refine rw_goto 88 0 dX11_comesOut_88 (by decide) ?_
        refine rw_pick 0 [0, 1] rfl ?_
        exact hB q3 h
      · refine rw_iconst 79 (v := 4) dX11_comesOut_79 (by decide) ?_
        refine rw_goto 80 84 dX11_comesOut_80 (by decide) ?_
        refine rw_iconst 84 (v := 0) dX11_comesOut_84 (by decide) ?_
        refine rn_cVmv 85 11 [.int 4, .int 0] dX11_comesOut_85 caX11_emit lX11_302 inX11_emit slX11_emit rfl ly_243 ⟨_, rfl, rfl⟩ rln_243 naX11_emit (Nat.le_of_ble_eq_true rfl) (Nat.le_of_ble_eq_true rfl) (by decide) (fun _ hq => wX11_emit 4 0 μ2 hq) h (fun q4 h => ?_)
        refine rw_goto 88 0 dX11_comesOut_88 (by decide) ?_
        refine rw_pick 0 [0, 1] rfl ?_
        exact hB q4 h
    · refine rw_iconst 69 (v := 3) dX11_comesOut_69 (by decide) ?_
      refine rw_goto 70 84 dX11_comesOut_70 (by decide) ?_
      refine rw_iconst 84 (v := 0) dX11_comesOut_84 (by decide) ?_
      refine rn_cVmv 85 11 [.int 3, .int 0] dX11_comesOut_85 caX11_emit lX11_302 inX11_emit slX11_emit rfl ly_243 ⟨_, rfl, rfl⟩ rln_243 naX11_emit (Nat.le_of_ble_eq_true rfl) (Nat.le_of_ble_eq_true rfl) (by decide) (fun _ hq => wX11_emit 3 0 μ2 hq) h (fun q5 h => ?_)
      refine rw_goto 88 0 dX11_comesOut_88 (by decide) ?_
      refine rw_pick 0 [0, 1] rfl ?_
      exact hB q5 h
  · refine rw_iconst 59 (v := 2) dX11_comesOut_59 (by decide) ?_
    refine rw_goto 60 84 dX11_comesOut_60 (by decide) ?_
    refine rw_iconst 84 (v := 0) dX11_comesOut_84 (by decide) ?_
    refine rn_cVmv 85 11 [.int 2, .int 0] dX11_comesOut_85 caX11_emit lX11_302 inX11_emit slX11_emit rfl ly_243 ⟨_, rfl, rfl⟩ rln_243 naX11_emit (Nat.le_of_ble_eq_true rfl) (Nat.le_of_ble_eq_true rfl) (by decide) (fun _ hq => wX11_emit 2 0 μ2 hq) h (fun q6 h => ?_)
    refine rw_goto 88 0 dX11_comesOut_88 (by decide) ?_
    refine rw_pick 0 [0, 1] rfl ?_
    exact hB q6 h
set_option maxRecDepth 100000 in
theorem wX11_comesOut_0   (v1 : Int32)  (K : Mem → Option (Mem)) {res : Mem} (hK : ∀  (μ : Mem), K μ = some res → RW mX11_comesOut 2 NF NF 91 [] [] (μ, Rf0, NF) (QN none res Rf0 NF)) : ∀ (n9 : Nat)  (μ : Mem), fX11_comesOut_0 v1 K n9 μ = some res → RW mX11_comesOut 2 NF NF 0 [(0, .ref 243), (1, .int v1)] [] (μ, Rf0, NF) (QN none res Rf0 NF) := by
  intro n9
  induction n9 with
  | zero => intro _ h; cases h
  | succ n ih =>
    intro μ h
    unfold fX11_comesOut_0 at h
    refine rw_aload_n 0 dX11_comesOut_0 0 rfl ?_
    refine rw_getI 1 11 46 kc11 dX11_comesOut_1 ly_243 rln_243 fX11_299 rfl ?_
    refine rn_if_le 4 91 dX11_comesOut_4 (by decide) h (fun _ h => ?_) (fun _ h => ?_)
    · refine rw_pick 91 [] rfl ?_
      exact hK μ h
    · refine rw_aload_n 7 dX11_comesOut_7 0 rfl ?_
      refine rw_getR 8 11 45 kc11 dX11_comesOut_8 ly_243 rln_243 fX11_107 rfl rf_243_45 ?_
      refine rw_aload_n 11 dX11_comesOut_11 0 rfl ?_
      refine rw_getI 12 11 46 kc11 dX11_comesOut_12 ly_243 rln_243 fX11_299 rfl ?_
      refine rw_iconst 15 (v := 1) dX11_comesOut_15 (by decide) ?_
      refine rw_isub 16 dX11_comesOut_16 ?_
      refine rn_iald 17 dX11_comesOut_17 ly_273 rln_273 h (fun h => ?_)
      refine rn_ist_n 18 (fun x1 => [(0, .ref 243), (1, .int v1), (2, .int x1)]) dX11_comesOut_18 (by decide) (fun _ => rfl) h (fun x1 h => ?_)
      refine rw_iload_n 19 dX11_comesOut_19 2 rfl ?_
      refine rw_bipush 20 (v := 6) dX11_comesOut_20 (by decide) ?_
      refine rn_icmp_eq 22 41 dX11_comesOut_22 (by decide) h (fun _ h => ?_) (fun _ h => ?_)
      · exact rn_vret 41 dX11_comesOut_41 rfl h
      · refine rw_iload_n 25 dX11_comesOut_25 1 rfl ?_
        refine rn_if_eq 26 42 dX11_comesOut_26 (by decide) h (fun _ h => ?_) (fun _ h => ?_)
        · exact wX11_comesOut_j42_0 v1 x1 μ _ (fun zm h => ih zm h) K hK h
        · refine rw_iload_n 29 dX11_comesOut_29 2 rfl ?_
          refine rw_bipush 30 (v := 8) dX11_comesOut_30 (by decide) ?_
          refine rn_icmp_eq 32 41 dX11_comesOut_32 (by decide) h (fun _ h => ?_) (fun _ h => ?_)
          · exact rn_vret 41 dX11_comesOut_41 rfl h
          · refine rw_iload_n 35 dX11_comesOut_35 2 rfl ?_
            refine rw_bipush 36 (v := 9) dX11_comesOut_36 (by decide) ?_
            refine rn_icmp_ne 38 42 dX11_comesOut_38 (by decide) h (fun _ h => ?_) (fun _ h => ?_)
            · exact wX11_comesOut_j42_0 v1 x1 μ _ (fun zm h => ih zm h) K hK h
            · exact rn_vret 41 dX11_comesOut_41 rfl h
set_option maxRecDepth 100000 in
theorem wX11_comesOut (a1 : Int32) (μ : Mem) {res : Mem} (h : fX11_comesOut a1 μ = some res) : Ct mX11_comesOut 2 NF NF [.ref 243, .int a1] (μ, Rf0, NF) (QN none res Rf0 NF) := by
  unfold fX11_comesOut at h
  show RW mX11_comesOut 2 NF NF 0 [(0, .ref 243), (1, .int a1)] [] (μ, Rf0, NF) (QN none res Rf0 NF)
  refine wX11_comesOut_0 a1 _ (fun μ7 h => ?_) FU μ h
  exact rn_vret 91 dX11_comesOut_91 rfl h
