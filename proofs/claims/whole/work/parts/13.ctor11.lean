def Rc0 : Nat → Nat → Option Nat := zR (RX10_init_0 (zR (fun _ _ => none) 0)) 243
def RX11_init (R : Nat → Nat → Option Nat) : Nat → Nat → Option Nat := (wR (zR (wR (zR (wR (zR (wR (zR (wR (zR (wR (zR (wR (zR (wR (zR (wR (zR (wR (zR (wR (zR (wR (zR (wR (zR (wR (zR (wR (zR (wR (zR (wR (zR (wR (zR (wR (zR (wR (zR (wR (zR (wR (zR (wR (zR (wR (zR (wR (zR (wR (zR (wR (zR (wR (zR (wR (zR (wR (zR (wR (zR (wR (zR (wR (zR (wR (zR (wR (zR (wR (zR (wR (zR (wR (zR (wR (zR (wR (zR (wR (zR (wR (zR (wR (zR (wR (zR (wR (zR R 244) 243 1 (some 244)) 245) 243 3 (some 245)) 246) 243 5 (some 246)) 247) 243 6 (some 247)) 248) 243 7 (some 248)) 249) 243 8 (some 249)) 250) 243 9 (some 250)) 251) 243 21 (some 251)) 252) 243 22 (some 252)) 253) 243 23 (some 253)) 254) 243 24 (some 254)) 255) 243 25 (some 255)) 256) 243 26 (some 256)) 257) 243 27 (some 257)) 258) 243 28 (some 258)) 259) 243 29 (some 259)) 260) 243 30 (some 260)) 261) 243 31 (some 261)) 262) 243 32 (some 262)) 263) 243 33 (some 263)) 264) 243 34 (some 264)) 265) 243 35 (some 265)) 266) 243 37 (some 266)) 267) 243 38 (some 267)) 268) 243 39 (some 268)) 269) 243 40 (some 269)) 270) 243 41 (some 270)) 271) 243 43 (some 271)) 272) 243 44 (some 272)) 273) 243 45 (some 273)) 274) 243 47 (some 274)) 275) 243 48 (some 275)) 276) 243 50 (some 276)) 277) 243 51 (some 277)) 278) 243 54 (some 278)) 279) 243 55 (some 279)) 280) 243 57 (some 280)) 281) 243 58 (some 281)) 282) 243 59 (some 282)) 283) 243 60 (some 283)) 284) 243 61 (some 284)) 285) 243 63 (some 285)) 286) 243 64 (some 286)) 287) 243 65 (some 287)) 288) 243 66 (some 288))
set_option maxRecDepth 100000 in
theorem rc_all : ∀ k, k < NF → ∀ j, j < rlen k → RX11_init Rc0 k j = Rf0 k j := by decide +kernel
def fX11_init (μ : Mem) : Option Mem :=
  nm (zM μ 244) fun μ1 =>
  nm (zM μ1 245) fun μ2 =>
  nm (zM μ2 246) fun μ3 =>
  nm (zM μ3 247) fun μ4 =>
  nm (zM μ4 248) fun μ5 =>
  nm (zM μ5 249) fun μ6 =>
  nm (zM μ6 250) fun μ7 =>
  nm (wI μ7 243 17 (-1)) fun μ8 =>
  nm (zM μ8 251) fun μ9 =>
  nm (zM μ9 252) fun μ10 =>
  nm (zM μ10 253) fun μ11 =>
  nm (zM μ11 254) fun μ12 =>
  nm (zM μ12 255) fun μ13 =>
  nm (zM μ13 256) fun μ14 =>
  nm (zM μ14 257) fun μ15 =>
  nm (zM μ15 258) fun μ16 =>
  nm (zM μ16 259) fun μ17 =>
  nm (zM μ17 260) fun μ18 =>
  nm (zM μ18 261) fun μ19 =>
  nm (zM μ19 262) fun μ20 =>
  nm (zM μ20 263) fun μ21 =>
  nm (zM μ21 264) fun μ22 =>
  nm (zM μ22 265) fun μ23 =>
  nm (zM μ23 266) fun μ24 =>
  nm (zM μ24 267) fun μ25 =>
  nm (zM μ25 268) fun μ26 =>
  nm (zM μ26 269) fun μ27 =>
  nm (zM μ27 270) fun μ28 =>
  nm (zM μ28 271) fun μ29 =>
  nm (zM μ29 272) fun μ30 =>
  nm (zM μ30 273) fun μ31 =>
  nm (zM μ31 274) fun μ32 =>
  nm (zM μ32 275) fun μ33 =>
  nm (zM μ33 276) fun μ34 =>
  nm (zM μ34 277) fun μ35 =>
  nm (zM μ35 278) fun μ36 =>
  nm (zM μ36 279) fun μ37 =>
  nm (zM μ37 280) fun μ38 =>
  nm (zM μ38 281) fun μ39 =>
  nm (zM μ39 282) fun μ40 =>
  nm (zM μ40 283) fun μ41 =>
  nm (zM μ41 284) fun μ42 =>
  nm (zM μ42 285) fun μ43 =>
  nm (zM μ43 286) fun μ44 =>
  nm (zM μ44 287) fun μ45 =>
  nm (zM μ45 288) fun μ46 =>
  (fX11_plain 0 μ46).bind fun q1001 =>
  (fX11_plain 1 q1001).bind fun q1002 =>
  (fX11_word 115 117 110 100 97 121 0 q1002).bind fun q1003 =>
  nm (wJ q1002 250 0 q1003) fun μ1004 =>
  (fX11_word 103 117 101 115 116 0 0 μ1004).bind fun q1005 =>
  nm (wJ μ1004 250 1 q1005) fun μ1006 =>
  (fX11_word 102 111 101 115 0 0 0 μ1006).bind fun q1007 =>
  nm (wJ μ1006 250 2 q1007) fun μ1008 =>
  (fX11_word 112 97 121 115 0 0 0 μ1008).bind fun q1009 =>
  nm (wJ μ1008 250 3 q1009) fun μ1010 =>
  (fX11_word 114 101 115 116 115 0 0 μ1010).bind fun q1011 =>
  nm (wJ μ1010 250 4 q1011) fun μ1012 =>
  (fX11_word 119 101 97 114 115 0 0 μ1012).bind fun q1013 =>
  nm (wJ μ1012 250 5 q1013) fun μ1014 =>
  (fX11_word 115 101 108 108 115 0 0 μ1014).bind fun q1015 =>
  nm (wJ μ1014 250 6 q1015) fun μ1016 =>
  (fX11_word 100 101 97 116 104 0 0 μ1016).bind fun q1017 =>
  nm (wJ μ1016 250 7 q1017) fun μ1018 =>
  (fX11_word 115 101 101 100 0 0 0 μ1018).bind fun q1019 =>
  nm (wJ μ1018 250 8 q1019) fun μ1020 =>
  (fX11_word 105 102 0 0 0 0 0 μ1020).bind fun q1021 =>
  nm (wJ μ1020 250 9 q1021) fun μ1022 =>
  (fX11_word 116 104 101 110 0 0 0 μ1022).bind fun q1023 =>
  nm (wJ μ1022 250 10 q1023) fun μ1024 =>
  (fX11_word 101 108 115 101 0 0 0 μ1024).bind fun q1025 =>
  nm (wJ μ1024 250 11 q1025) fun μ1026 =>
  (fX11_word 102 101 101 0 0 0 0 μ1026).bind fun q1027 =>
  nm (wJ μ1026 250 12 q1027) fun μ1028 =>
  (fX11_word 104 111 117 114 115 0 0 μ1028).bind fun q1029 =>
  nm (wJ μ1028 250 13 q1029) fun μ1030 =>
  (fX11_word 104 111 117 114 0 0 0 μ1030).bind fun q1031 =>
  nm (wJ μ1030 250 14 q1031) fun μ1032 =>
  (fX11_word 114 101 115 116 101 100 0 μ1032).bind fun q1033 =>
  nm (wJ μ1032 250 15 q1033) fun μ1034 =>
  (fX11_word 119 111 114 110 0 0 0 μ1034).bind fun q1035 =>
  nm (wJ μ1034 250 16 q1035) fun μ1036 =>
  (fX11_word 119 111 114 116 104 0 0 μ1036).bind fun q1037 =>
  nm (wJ μ1036 250 17 q1037) fun μ1038 =>
  (fX11_word 119 101 101 107 0 0 0 μ1038).bind fun q1039 =>
  nm (wJ μ1038 250 18 q1039) fun μ1040 =>
  (fX11_word 119 104 105 99 104 0 0 μ1040).bind fun q1041 =>
  nm (wJ μ1040 250 19 q1041) fun μ1042 =>
  (fX11_word 111 116 104 101 114 115 0 μ1042).bind fun q1043 =>
  nm (wJ μ1042 250 20 q1043) fun μ1044 =>
  (fX11_begins  μ1044).bind fun q1045 =>
  (fX11_keepsRow  q1045).bind fun q1046 =>
  some q1046
set_option maxRecDepth 100000 in
theorem wX11_init (μ : Mem) {res : Mem} (h : fX11_init μ = some res) : Ct mX11_init 8 244 NF [.ref 243] (μ, Rc0, 244) (QC res Rf0 NF) := by
  unfold fX11_init at h
  show RW mX11_init 8 244 NF 0 [(0, .ref 243)] [] (μ, Rc0, 244) _
  refine rw_aload_n 0 dX11_init_0 0 rfl ?_
  refine rw_objInit 1 dX11_init_1 lX11_7 wlI_obj wlC_obj (by decide) (Nat.le_of_ble_eq_true rfl) ?_
  refine rw_aload_n 4 dX11_init_4 0 rfl ?_
  refine rw_sipush 5 (v := 2000) dX11_init_5 (by decide) ?_
  refine rc_newa 8 (ty := 2) (ln := 2000) .byte rfl (by decide) dX11_init_8 ly_244 (by decide) (by decide) (by decide) wlA_byte (by decide) h (fun μ1 h => ?_)
  refine rc_putR 10 11 1 kc11 dX11_init_10 ly_243 (by decide) fX11_13 (fun q hq => by cases hq; rfl) rfl rfl ?_
  refine rw_aload_n 13 dX11_init_13 0 rfl ?_
  refine rw_sipush 14 (v := 2000) dX11_init_14 (by decide) ?_
  refine rc_newa 17 (ty := 2) (ln := 2000) .byte rfl (by decide) dX11_init_17 ly_245 (by decide) (by decide) (by decide) wlA_byte (by decide) h (fun μ2 h => ?_)
  refine rc_putR 19 11 3 kc11 dX11_init_19 ly_243 (by decide) fX11_17 (fun q hq => by cases hq; rfl) rfl rfl ?_
  refine rw_aload_n 22 dX11_init_22 0 rfl ?_
  refine rw_sipush 23 (v := 403) dX11_init_23 (by decide) ?_
  refine rc_newa 26 (ty := 0) (ln := 403) .int rfl (by decide) dX11_init_26 ly_246 (by decide) (by decide) (by decide) wlA_int (by decide) h (fun μ3 h => ?_)
  refine rc_putR 28 11 5 kc11 dX11_init_28 ly_243 (by decide) fX11_20 (fun q hq => by cases hq; rfl) rfl rfl ?_
  refine rw_aload_n 31 dX11_init_31 0 rfl ?_
  refine rw_sipush 32 (v := 403) dX11_init_32 (by decide) ?_
  refine rc_newa 35 (ty := 0) (ln := 403) .int rfl (by decide) dX11_init_35 ly_247 (by decide) (by decide) (by decide) wlA_int (by decide) h (fun μ4 h => ?_)
  refine rc_putR 37 11 6 kc11 dX11_init_37 ly_243 (by decide) fX11_24 (fun q hq => by cases hq; rfl) rfl rfl ?_
  refine rw_aload_n 40 dX11_init_40 0 rfl ?_
  refine rw_sipush 41 (v := 403) dX11_init_41 (by decide) ?_
  refine rc_newa 44 (ty := 0) (ln := 403) .int rfl (by decide) dX11_init_44 ly_248 (by decide) (by decide) (by decide) wlA_int (by decide) h (fun μ5 h => ?_)
  refine rc_putR 46 11 7 kc11 dX11_init_46 ly_243 (by decide) fX11_27 (fun q hq => by cases hq; rfl) rfl rfl ?_
  refine rw_aload_n 49 dX11_init_49 0 rfl ?_
  refine rw_sipush 50 (v := 403) dX11_init_50 (by decide) ?_
  refine rc_newa 53 (ty := 1) (ln := 403) .long rfl (by decide) dX11_init_53 ly_249 (by decide) (by decide) (by decide) wlA_long (by decide) h (fun μ6 h => ?_)
  refine rc_putR 55 11 8 kc11 dX11_init_55 ly_243 (by decide) fX11_30 (fun q hq => by cases hq; rfl) rfl rfl ?_
  refine rw_aload_n 58 dX11_init_58 0 rfl ?_
  refine rw_bipush 59 (v := 21) dX11_init_59 (by decide) ?_
  refine rc_newa 61 (ty := 1) (ln := 21) .long rfl (by decide) dX11_init_61 ly_250 (by decide) (by decide) (by decide) wlA_long (by decide) h (fun μ7 h => ?_)
  refine rc_putR 63 11 9 kc11 dX11_init_63 ly_243 (by decide) fX11_34 (fun q hq => by cases hq; rfl) rfl rfl ?_
  refine rw_aload_n 66 dX11_init_66 0 rfl ?_
  refine rw_iconst 67 (v := -1) dX11_init_67 (by decide) ?_
  refine rc_putI 68 11 17 kc11 dX11_init_68 ly_243 (by decide) fX11_37 (fun q hq => by cases hq; rfl) rfl rfl rfl rfl h (fun μ8 h => ?_)
  refine rw_aload_n 71 dX11_init_71 0 rfl ?_
  refine rw_bipush 72 (v := 11) dX11_init_72 (by decide) ?_
  refine rc_newa 74 (ty := 1) (ln := 11) .long rfl (by decide) dX11_init_74 ly_251 (by decide) (by decide) (by decide) wlA_long (by decide) h (fun μ9 h => ?_)
  refine rc_putR 76 11 21 kc11 dX11_init_76 ly_243 (by decide) fX11_40 (fun q hq => by cases hq; rfl) rfl rfl ?_
  refine rw_aload_n 79 dX11_init_79 0 rfl ?_
  refine rw_bipush 80 (v := 11) dX11_init_80 (by decide) ?_
  refine rc_newa 82 (ty := 0) (ln := 11) .int rfl (by decide) dX11_init_82 ly_252 (by decide) (by decide) (by decide) wlA_int (by decide) h (fun μ10 h => ?_)
  refine rc_putR 84 11 22 kc11 dX11_init_84 ly_243 (by decide) fX11_43 (fun q hq => by cases hq; rfl) rfl rfl ?_
  refine rw_aload_n 87 dX11_init_87 0 rfl ?_
  refine rw_iconst 88 (v := 2) dX11_init_88 (by decide) ?_
  refine rc_newa 89 (ty := 0) (ln := 2) .int rfl (by decide) dX11_init_89 ly_253 (by decide) (by decide) (by decide) wlA_int (by decide) h (fun μ11 h => ?_)
  refine rc_putR 91 11 23 kc11 dX11_init_91 ly_243 (by decide) fX11_46 (fun q hq => by cases hq; rfl) rfl rfl ?_
  refine rw_aload_n 94 dX11_init_94 0 rfl ?_
  refine rw_bipush 95 (v := 8) dX11_init_95 (by decide) ?_
  refine rc_newa 97 (ty := 0) (ln := 8) .int rfl (by decide) dX11_init_97 ly_254 (by decide) (by decide) (by decide) wlA_int (by decide) h (fun μ12 h => ?_)
  refine rc_putR 99 11 24 kc11 dX11_init_99 ly_243 (by decide) fX11_49 (fun q hq => by cases hq; rfl) rfl rfl ?_
  refine rw_aload_n 102 dX11_init_102 0 rfl ?_
  refine rw_bipush 103 (v := 8) dX11_init_103 (by decide) ?_
  refine rc_newa 105 (ty := 0) (ln := 8) .int rfl (by decide) dX11_init_105 ly_255 (by decide) (by decide) (by decide) wlA_int (by decide) h (fun μ13 h => ?_)
  refine rc_putR 107 11 25 kc11 dX11_init_107 ly_243 (by decide) fX11_52 (fun q hq => by cases hq; rfl) rfl rfl ?_
  refine rw_aload_n 110 dX11_init_110 0 rfl ?_
  refine rw_iconst 111 (v := 2) dX11_init_111 (by decide) ?_
  refine rc_newa 112 (ty := 0) (ln := 2) .int rfl (by decide) dX11_init_112 ly_256 (by decide) (by decide) (by decide) wlA_int (by decide) h (fun μ14 h => ?_)
  refine rc_putR 114 11 26 kc11 dX11_init_114 ly_243 (by decide) fX11_55 (fun q hq => by cases hq; rfl) rfl rfl ?_
  refine rw_aload_n 117 dX11_init_117 0 rfl ?_
  refine rw_bipush 118 (v := 14) dX11_init_118 (by decide) ?_
  refine rc_newa 120 (ty := 0) (ln := 14) .int rfl (by decide) dX11_init_120 ly_257 (by decide) (by decide) (by decide) wlA_int (by decide) h (fun μ15 h => ?_)
  refine rc_putR 122 11 27 kc11 dX11_init_122 ly_243 (by decide) fX11_58 (fun q hq => by cases hq; rfl) rfl rfl ?_
  refine rw_aload_n 125 dX11_init_125 0 rfl ?_
  refine rw_bipush 126 (v := 14) dX11_init_126 (by decide) ?_
  refine rc_newa 128 (ty := 0) (ln := 14) .int rfl (by decide) dX11_init_128 ly_258 (by decide) (by decide) (by decide) wlA_int (by decide) h (fun μ16 h => ?_)
  refine rc_putR 130 11 28 kc11 dX11_init_130 ly_243 (by decide) fX11_61 (fun q hq => by cases hq; rfl) rfl rfl ?_
  refine rw_aload_n 133 dX11_init_133 0 rfl ?_
  refine rw_bipush 134 (v := 14) dX11_init_134 (by decide) ?_
  refine rc_newa 136 (ty := 0) (ln := 14) .int rfl (by decide) dX11_init_136 ly_259 (by decide) (by decide) (by decide) wlA_int (by decide) h (fun μ17 h => ?_)
  refine rc_putR 138 11 29 kc11 dX11_init_138 ly_243 (by decide) fX11_64 (fun q hq => by cases hq; rfl) rfl rfl ?_
  refine rw_aload_n 141 dX11_init_141 0 rfl ?_
  refine rw_bipush 142 (v := 14) dX11_init_142 (by decide) ?_
  refine rc_newa 144 (ty := 0) (ln := 14) .int rfl (by decide) dX11_init_144 ly_260 (by decide) (by decide) (by decide) wlA_int (by decide) h (fun μ18 h => ?_)
  refine rc_putR 146 11 30 kc11 dX11_init_146 ly_243 (by decide) fX11_67 (fun q hq => by cases hq; rfl) rfl rfl ?_
  refine rw_aload_n 149 dX11_init_149 0 rfl ?_
  refine rw_iconst 150 (v := 2) dX11_init_150 (by decide) ?_
  refine rc_newa 151 (ty := 0) (ln := 2) .int rfl (by decide) dX11_init_151 ly_261 (by decide) (by decide) (by decide) wlA_int (by decide) h (fun μ19 h => ?_)
  refine rc_putR 153 11 31 kc11 dX11_init_153 ly_243 (by decide) fX11_70 (fun q hq => by cases hq; rfl) rfl rfl ?_
  refine rw_aload_n 156 dX11_init_156 0 rfl ?_
  refine rw_iconst 157 (v := 2) dX11_init_157 (by decide) ?_
  refine rc_newa 158 (ty := 0) (ln := 2) .int rfl (by decide) dX11_init_158 ly_262 (by decide) (by decide) (by decide) wlA_int (by decide) h (fun μ20 h => ?_)
  refine rc_putR 160 11 32 kc11 dX11_init_160 ly_243 (by decide) fX11_73 (fun q hq => by cases hq; rfl) rfl rfl ?_
  refine rw_aload_n 163 dX11_init_163 0 rfl ?_
  refine rw_iconst 164 (v := 2) dX11_init_164 (by decide) ?_
  refine rc_newa 165 (ty := 0) (ln := 2) .int rfl (by decide) dX11_init_165 ly_263 (by decide) (by decide) (by decide) wlA_int (by decide) h (fun μ21 h => ?_)
  refine rc_putR 167 11 33 kc11 dX11_init_167 ly_243 (by decide) fX11_76 (fun q hq => by cases hq; rfl) rfl rfl ?_
  refine rw_aload_n 170 dX11_init_170 0 rfl ?_
  refine rw_bipush 171 (v := 8) dX11_init_171 (by decide) ?_
  refine rc_newa 173 (ty := 0) (ln := 8) .int rfl (by decide) dX11_init_173 ly_264 (by decide) (by decide) (by decide) wlA_int (by decide) h (fun μ22 h => ?_)
  refine rc_putR 175 11 34 kc11 dX11_init_175 ly_243 (by decide) fX11_79 (fun q hq => by cases hq; rfl) rfl rfl ?_
  refine rw_aload_n 178 dX11_init_178 0 rfl ?_
  refine rw_bipush 179 (v := 8) dX11_init_179 (by decide) ?_
  refine rc_newa 181 (ty := 0) (ln := 8) .int rfl (by decide) dX11_init_181 ly_265 (by decide) (by decide) (by decide) wlA_int (by decide) h (fun μ23 h => ?_)
  refine rc_putR 183 11 35 kc11 dX11_init_183 ly_243 (by decide) fX11_82 (fun q hq => by cases hq; rfl) rfl rfl ?_
  refine rw_aload_n 186 dX11_init_186 0 rfl ?_
  refine rw_sipush 187 (v := 260) dX11_init_187 (by decide) ?_
  refine rc_newa 190 (ty := 3) (ln := 260) .boolean rfl (by decide) dX11_init_190 ly_266 (by decide) (by decide) (by decide) wlA_boolean (by decide) h (fun μ24 h => ?_)
  refine rc_putR 192 11 37 kc11 dX11_init_192 ly_243 (by decide) fX11_85 (fun q hq => by cases hq; rfl) rfl rfl ?_
  refine rw_aload_n 195 dX11_init_195 0 rfl ?_
  refine rw_sipush 196 (v := 260) dX11_init_196 (by decide) ?_
  refine rc_newa 199 (ty := 0) (ln := 260) .int rfl (by decide) dX11_init_199 ly_267 (by decide) (by decide) (by decide) wlA_int (by decide) h (fun μ25 h => ?_)
  refine rc_putR 201 11 38 kc11 dX11_init_201 ly_243 (by decide) fX11_89 (fun q hq => by cases hq; rfl) rfl rfl ?_
  refine rw_aload_n 204 dX11_init_204 0 rfl ?_
  refine rw_sipush 205 (v := 260) dX11_init_205 (by decide) ?_
  refine rc_newa 208 (ty := 0) (ln := 260) .int rfl (by decide) dX11_init_208 ly_268 (by decide) (by decide) (by decide) wlA_int (by decide) h (fun μ26 h => ?_)
  refine rc_putR 210 11 39 kc11 dX11_init_210 ly_243 (by decide) fX11_92 (fun q hq => by cases hq; rfl) rfl rfl ?_
  refine rw_aload_n 213 dX11_init_213 0 rfl ?_
  refine rw_sipush 214 (v := 260) dX11_init_214 (by decide) ?_
  refine rc_newa 217 (ty := 0) (ln := 260) .int rfl (by decide) dX11_init_217 ly_269 (by decide) (by decide) (by decide) wlA_int (by decide) h (fun μ27 h => ?_)
  refine rc_putR 219 11 40 kc11 dX11_init_219 ly_243 (by decide) fX11_95 (fun q hq => by cases hq; rfl) rfl rfl ?_
  refine rw_aload_n 222 dX11_init_222 0 rfl ?_
  refine rw_sipush 223 (v := 260) dX11_init_223 (by decide) ?_
  refine rc_newa 226 (ty := 0) (ln := 260) .int rfl (by decide) dX11_init_226 ly_270 (by decide) (by decide) (by decide) wlA_int (by decide) h (fun μ28 h => ?_)
  refine rc_putR 228 11 41 kc11 dX11_init_228 ly_243 (by decide) fX11_98 (fun q hq => by cases hq; rfl) rfl rfl ?_
  refine rw_aload_n 231 dX11_init_231 0 rfl ?_
  refine rw_sipush 232 (v := 840) dX11_init_232 (by decide) ?_
  refine rc_newa 235 (ty := 0) (ln := 840) .int rfl (by decide) dX11_init_235 ly_271 (by decide) (by decide) (by decide) wlA_int (by decide) h (fun μ29 h => ?_)
  refine rc_putR 237 11 43 kc11 dX11_init_237 ly_243 (by decide) fX11_101 (fun q hq => by cases hq; rfl) rfl rfl ?_
  refine rw_aload_n 240 dX11_init_240 0 rfl ?_
  refine rw_sipush 241 (v := 840) dX11_init_241 (by decide) ?_
  refine rc_newa 244 (ty := 0) (ln := 840) .int rfl (by decide) dX11_init_244 ly_272 (by decide) (by decide) (by decide) wlA_int (by decide) h (fun μ30 h => ?_)
  refine rc_putR 246 11 44 kc11 dX11_init_246 ly_243 (by decide) fX11_104 (fun q hq => by cases hq; rfl) rfl rfl ?_
  refine rw_aload_n 249 dX11_init_249 0 rfl ?_
  refine rw_bipush 250 (v := 64) dX11_init_250 (by decide) ?_
  refine rc_newa 252 (ty := 0) (ln := 64) .int rfl (by decide) dX11_init_252 ly_273 (by decide) (by decide) (by decide) wlA_int (by decide) h (fun μ31 h => ?_)
  refine rc_putR 254 11 45 kc11 dX11_init_254 ly_243 (by decide) fX11_107 (fun q hq => by cases hq; rfl) rfl rfl ?_
  refine rw_aload_n 257 dX11_init_257 0 rfl ?_
  refine rw_bipush 258 (v := 9) dX11_init_258 (by decide) ?_
  refine rc_newa 260 (ty := 0) (ln := 9) .int rfl (by decide) dX11_init_260 ly_274 (by decide) (by decide) (by decide) wlA_int (by decide) h (fun μ32 h => ?_)
  refine rc_putR 262 11 47 kc11 dX11_init_262 ly_243 (by decide) fX11_110 (fun q hq => by cases hq; rfl) rfl rfl ?_
  refine rw_aload_n 265 dX11_init_265 0 rfl ?_
  refine rw_sipush 266 (v := 400) dX11_init_266 (by decide) ?_
  refine rc_newa 269 (ty := 0) (ln := 400) .int rfl (by decide) dX11_init_269 ly_275 (by decide) (by decide) (by decide) wlA_int (by decide) h (fun μ33 h => ?_)
  refine rc_putR 271 11 48 kc11 dX11_init_271 ly_243 (by decide) fX11_113 (fun q hq => by cases hq; rfl) rfl rfl ?_
  refine rw_aload_n 274 dX11_init_274 0 rfl ?_
  refine rw_bipush 275 (v := 31) dX11_init_275 (by decide) ?_
  refine rc_newa 277 (ty := 0) (ln := 31) .int rfl (by decide) dX11_init_277 ly_276 (by decide) (by decide) (by decide) wlA_int (by decide) h (fun μ34 h => ?_)
  refine rc_putR 279 11 50 kc11 dX11_init_279 ly_243 (by decide) fX11_116 (fun q hq => by cases hq; rfl) rfl rfl ?_
  refine rw_aload_n 282 dX11_init_282 0 rfl ?_
  refine rw_bipush 283 (v := 31) dX11_init_283 (by decide) ?_
  refine rc_newa 285 (ty := 0) (ln := 31) .int rfl (by decide) dX11_init_285 ly_277 (by decide) (by decide) (by decide) wlA_int (by decide) h (fun μ35 h => ?_)
  refine rc_putR 287 11 51 kc11 dX11_init_287 ly_243 (by decide) fX11_119 (fun q hq => by cases hq; rfl) rfl rfl ?_
  refine rw_aload_n 290 dX11_init_290 0 rfl ?_
  refine rw_bipush 291 (v := 7) dX11_init_291 (by decide) ?_
  refine rc_newa 293 (ty := 0) (ln := 7) .int rfl (by decide) dX11_init_293 ly_278 (by decide) (by decide) (by decide) wlA_int (by decide) h (fun μ36 h => ?_)
  refine rc_putR 295 11 54 kc11 dX11_init_295 ly_243 (by decide) fX11_122 (fun q hq => by cases hq; rfl) rfl rfl ?_
  refine rw_aload_n 298 dX11_init_298 0 rfl ?_
  refine rw_iconst 299 (v := 4) dX11_init_299 (by decide) ?_
  refine rc_newa 300 (ty := 0) (ln := 4) .int rfl (by decide) dX11_init_300 ly_279 (by decide) (by decide) (by decide) wlA_int (by decide) h (fun μ37 h => ?_)
  refine rc_putR 302 11 55 kc11 dX11_init_302 ly_243 (by decide) fX11_125 (fun q hq => by cases hq; rfl) rfl rfl ?_
  refine rw_aload_n 305 dX11_init_305 0 rfl ?_
  refine rw_sipush 306 (v := 1240) dX11_init_306 (by decide) ?_
  refine rc_newa 309 (ty := 0) (ln := 1240) .int rfl (by decide) dX11_init_309 ly_280 (by decide) (by decide) (by decide) wlA_int (by decide) h (fun μ38 h => ?_)
  refine rc_putR 311 11 57 kc11 dX11_init_311 ly_243 (by decide) fX11_128 (fun q hq => by cases hq; rfl) rfl rfl ?_
  refine rw_aload_n 314 dX11_init_314 0 rfl ?_
  refine rw_sipush 315 (v := 512) dX11_init_315 (by decide) ?_
  refine rc_newa 318 (ty := 0) (ln := 512) .int rfl (by decide) dX11_init_318 ly_281 (by decide) (by decide) (by decide) wlA_int (by decide) h (fun μ39 h => ?_)
  refine rc_putR 320 11 58 kc11 dX11_init_320 ly_243 (by decide) fX11_131 (fun q hq => by cases hq; rfl) rfl rfl ?_
  refine rw_aload_n 323 dX11_init_323 0 rfl ?_
  refine rw_sipush 324 (v := 640) dX11_init_324 (by decide) ?_
  refine rc_newa 327 (ty := 0) (ln := 640) .int rfl (by decide) dX11_init_327 ly_282 (by decide) (by decide) (by decide) wlA_int (by decide) h (fun μ40 h => ?_)
  refine rc_putR 329 11 59 kc11 dX11_init_329 ly_243 (by decide) fX11_134 (fun q hq => by cases hq; rfl) rfl rfl ?_
  refine rw_aload_n 332 dX11_init_332 0 rfl ?_
  refine rw_sipush 333 (v := 2048) dX11_init_333 (by decide) ?_
  refine rc_newa 336 (ty := 3) (ln := 2048) .boolean rfl (by decide) dX11_init_336 ly_283 (by decide) (by decide) (by decide) wlA_boolean (by decide) h (fun μ41 h => ?_)
  refine rc_putR 338 11 60 kc11 dX11_init_338 ly_243 (by decide) fX11_137 (fun q hq => by cases hq; rfl) rfl rfl ?_
  refine rw_aload_n 341 dX11_init_341 0 rfl ?_
  refine rw_sipush 342 (v := 128) dX11_init_342 (by decide) ?_
  refine rc_newa 345 (ty := 0) (ln := 128) .int rfl (by decide) dX11_init_345 ly_284 (by decide) (by decide) (by decide) wlA_int (by decide) h (fun μ42 h => ?_)
  refine rc_putR 347 11 61 kc11 dX11_init_347 ly_243 (by decide) fX11_140 (fun q hq => by cases hq; rfl) rfl rfl ?_
  refine rw_aload_n 350 dX11_init_350 0 rfl ?_
  refine rw_bipush 351 (v := 20) dX11_init_351 (by decide) ?_
  refine rc_newa 353 (ty := 0) (ln := 20) .int rfl (by decide) dX11_init_353 ly_285 (by decide) (by decide) (by decide) wlA_int (by decide) h (fun μ43 h => ?_)
  refine rc_putR 355 11 63 kc11 dX11_init_355 ly_243 (by decide) fX11_143 (fun q hq => by cases hq; rfl) rfl rfl ?_
  refine rw_aload_n 358 dX11_init_358 0 rfl ?_
  refine rw_bipush 359 (v := 20) dX11_init_359 (by decide) ?_
  refine rc_newa 361 (ty := 3) (ln := 20) .boolean rfl (by decide) dX11_init_361 ly_286 (by decide) (by decide) (by decide) wlA_boolean (by decide) h (fun μ44 h => ?_)
  refine rc_putR 363 11 64 kc11 dX11_init_363 ly_243 (by decide) fX11_146 (fun q hq => by cases hq; rfl) rfl rfl ?_
  refine rw_aload_n 366 dX11_init_366 0 rfl ?_
  refine rw_iconst 367 (v := 3) dX11_init_367 (by decide) ?_
  refine rc_newa 368 (ty := 3) (ln := 3) .boolean rfl (by decide) dX11_init_368 ly_287 (by decide) (by decide) (by decide) wlA_boolean (by decide) h (fun μ45 h => ?_)
  refine rc_putR 370 11 65 kc11 dX11_init_370 ly_243 (by decide) fX11_149 (fun q hq => by cases hq; rfl) rfl rfl ?_
  refine rw_aload_n 373 dX11_init_373 0 rfl ?_
  refine rw_bipush 374 (v := 93) dX11_init_374 (by decide) ?_
  refine rc_newa 376 (ty := 0) (ln := 93) .int rfl (by decide) dX11_init_376 ly_288 (by decide) (by decide) (by decide) wlA_int (by decide) h (fun μ46 h => ?_)
  refine rc_putR 378 11 66 kc11 dX11_init_378 ly_243 (by decide) fX11_152 (fun q hq => by cases hq; rfl) rfl rfl ?_
  refine rw_refs 381 rc_all ?_
  refine rw_aload_n 381 dX11_init_381 0 rfl ?_
  refine rw_iconst 382 (v := 0) dX11_init_382 (by decide) ?_
  refine rc_callVv 383 11 [.int 0] dX11_init_383 caX11_plain lX11_155 inX11_plain slX11_plain rfl ly_243 ⟨_, rfl, rfl⟩ rln_243 naX11_plain (Nat.le_of_ble_eq_true rfl) (Nat.le_of_ble_eq_true rfl) (by decide) (by decide) (fun _ hq => wX11_plain 0 μ46 hq) h (fun q1001 h => ?_)
  refine rw_aload_n 386 dX11_init_386 0 rfl ?_
  refine rw_iconst 387 (v := 1) dX11_init_387 (by decide) ?_
  refine rc_callVv 388 11 [.int 1] dX11_init_388 caX11_plain lX11_155 inX11_plain slX11_plain rfl ly_243 ⟨_, rfl, rfl⟩ rln_243 naX11_plain (Nat.le_of_ble_eq_true rfl) (Nat.le_of_ble_eq_true rfl) (by decide) (by decide) (fun _ hq => wX11_plain 1 q1001 hq) h (fun q1002 h => ?_)
  refine rw_aload_n 391 dX11_init_391 0 rfl ?_
  refine rw_getR 392 11 9 kc11 dX11_init_392 ly_243 rln_243 fX11_34 rfl rf_243_9 ?_
  refine rw_iconst 395 (v := 0) dX11_init_395 (by decide) ?_
  refine rw_bipush 396 (v := 115) dX11_init_396 (by decide) ?_
  refine rw_bipush 398 (v := 117) dX11_init_398 (by decide) ?_
  refine rw_bipush 400 (v := 110) dX11_init_400 (by decide) ?_
  refine rw_bipush 402 (v := 100) dX11_init_402 (by decide) ?_
  refine rw_bipush 404 (v := 97) dX11_init_404 (by decide) ?_
  refine rw_bipush 406 (v := 121) dX11_init_406 (by decide) ?_
  refine rw_iconst 408 (v := 0) dX11_init_408 (by decide) ?_
  refine rc_callSl 409 [.int 115, .int 117, .int 110, .int 100, .int 97, .int 121, .int 0] dX11_init_409 caX11_word lX11_159 stX11_word rfl naX11_word (Nat.le_of_ble_eq_true rfl) (Nat.le_of_ble_eq_true rfl) (by decide) (by decide) (fun _ hq => wX11_word 115 117 110 100 97 121 0 q1002 hq) h (fun q1003 h => ?_)
  refine rc_lastc 412 dX11_init_412 ly_250 rln_250 (by decide) (j := 0) (by decide) h (fun μ1004 h => ?_)
  refine rw_aload_n 413 dX11_init_413 0 rfl ?_
  refine rw_getR 414 11 9 kc11 dX11_init_414 ly_243 rln_243 fX11_34 rfl rf_243_9 ?_
  refine rw_iconst 417 (v := 1) dX11_init_417 (by decide) ?_
  refine rw_bipush 418 (v := 103) dX11_init_418 (by decide) ?_
  refine rw_bipush 420 (v := 117) dX11_init_420 (by decide) ?_
  refine rw_bipush 422 (v := 101) dX11_init_422 (by decide) ?_
  refine rw_bipush 424 (v := 115) dX11_init_424 (by decide) ?_
  refine rw_bipush 426 (v := 116) dX11_init_426 (by decide) ?_
  refine rw_iconst 428 (v := 0) dX11_init_428 (by decide) ?_
  refine rw_iconst 429 (v := 0) dX11_init_429 (by decide) ?_
  refine rc_callSl 430 [.int 103, .int 117, .int 101, .int 115, .int 116, .int 0, .int 0] dX11_init_430 caX11_word lX11_159 stX11_word rfl naX11_word (Nat.le_of_ble_eq_true rfl) (Nat.le_of_ble_eq_true rfl) (by decide) (by decide) (fun _ hq => wX11_word 103 117 101 115 116 0 0 μ1004 hq) h (fun q1005 h => ?_)
  refine rc_lastc 433 dX11_init_433 ly_250 rln_250 (by decide) (j := 1) (by decide) h (fun μ1006 h => ?_)
  refine rw_aload_n 434 dX11_init_434 0 rfl ?_
  refine rw_getR 435 11 9 kc11 dX11_init_435 ly_243 rln_243 fX11_34 rfl rf_243_9 ?_
  refine rw_iconst 438 (v := 2) dX11_init_438 (by decide) ?_
  refine rw_bipush 439 (v := 102) dX11_init_439 (by decide) ?_
  refine rw_bipush 441 (v := 111) dX11_init_441 (by decide) ?_
  refine rw_bipush 443 (v := 101) dX11_init_443 (by decide) ?_
  refine rw_bipush 445 (v := 115) dX11_init_445 (by decide) ?_
  refine rw_iconst 447 (v := 0) dX11_init_447 (by decide) ?_
  refine rw_iconst 448 (v := 0) dX11_init_448 (by decide) ?_
  refine rw_iconst 449 (v := 0) dX11_init_449 (by decide) ?_
  refine rc_callSl 450 [.int 102, .int 111, .int 101, .int 115, .int 0, .int 0, .int 0] dX11_init_450 caX11_word lX11_159 stX11_word rfl naX11_word (Nat.le_of_ble_eq_true rfl) (Nat.le_of_ble_eq_true rfl) (by decide) (by decide) (fun _ hq => wX11_word 102 111 101 115 0 0 0 μ1006 hq) h (fun q1007 h => ?_)
  refine rc_lastc 453 dX11_init_453 ly_250 rln_250 (by decide) (j := 2) (by decide) h (fun μ1008 h => ?_)
  refine rw_aload_n 454 dX11_init_454 0 rfl ?_
  refine rw_getR 455 11 9 kc11 dX11_init_455 ly_243 rln_243 fX11_34 rfl rf_243_9 ?_
  refine rw_iconst 458 (v := 3) dX11_init_458 (by decide) ?_
  refine rw_bipush 459 (v := 112) dX11_init_459 (by decide) ?_
  refine rw_bipush 461 (v := 97) dX11_init_461 (by decide) ?_
  refine rw_bipush 463 (v := 121) dX11_init_463 (by decide) ?_
  refine rw_bipush 465 (v := 115) dX11_init_465 (by decide) ?_
  refine rw_iconst 467 (v := 0) dX11_init_467 (by decide) ?_
  refine rw_iconst 468 (v := 0) dX11_init_468 (by decide) ?_
  refine rw_iconst 469 (v := 0) dX11_init_469 (by decide) ?_
  refine rc_callSl 470 [.int 112, .int 97, .int 121, .int 115, .int 0, .int 0, .int 0] dX11_init_470 caX11_word lX11_159 stX11_word rfl naX11_word (Nat.le_of_ble_eq_true rfl) (Nat.le_of_ble_eq_true rfl) (by decide) (by decide) (fun _ hq => wX11_word 112 97 121 115 0 0 0 μ1008 hq) h (fun q1009 h => ?_)
  refine rc_lastc 473 dX11_init_473 ly_250 rln_250 (by decide) (j := 3) (by decide) h (fun μ1010 h => ?_)
  refine rw_aload_n 474 dX11_init_474 0 rfl ?_
  refine rw_getR 475 11 9 kc11 dX11_init_475 ly_243 rln_243 fX11_34 rfl rf_243_9 ?_
  refine rw_iconst 478 (v := 4) dX11_init_478 (by decide) ?_
  refine rw_bipush 479 (v := 114) dX11_init_479 (by decide) ?_
  refine rw_bipush 481 (v := 101) dX11_init_481 (by decide) ?_
  refine rw_bipush 483 (v := 115) dX11_init_483 (by decide) ?_
  refine rw_bipush 485 (v := 116) dX11_init_485 (by decide) ?_
  refine rw_bipush 487 (v := 115) dX11_init_487 (by decide) ?_
  refine rw_iconst 489 (v := 0) dX11_init_489 (by decide) ?_
  refine rw_iconst 490 (v := 0) dX11_init_490 (by decide) ?_
  refine rc_callSl 491 [.int 114, .int 101, .int 115, .int 116, .int 115, .int 0, .int 0] dX11_init_491 caX11_word lX11_159 stX11_word rfl naX11_word (Nat.le_of_ble_eq_true rfl) (Nat.le_of_ble_eq_true rfl) (by decide) (by decide) (fun _ hq => wX11_word 114 101 115 116 115 0 0 μ1010 hq) h (fun q1011 h => ?_)
  refine rc_lastc 494 dX11_init_494 ly_250 rln_250 (by decide) (j := 4) (by decide) h (fun μ1012 h => ?_)
  refine rw_aload_n 495 dX11_init_495 0 rfl ?_
  refine rw_getR 496 11 9 kc11 dX11_init_496 ly_243 rln_243 fX11_34 rfl rf_243_9 ?_
  refine rw_iconst 499 (v := 5) dX11_init_499 (by decide) ?_
  refine rw_bipush 500 (v := 119) dX11_init_500 (by decide) ?_
  refine rw_bipush 502 (v := 101) dX11_init_502 (by decide) ?_
  refine rw_bipush 504 (v := 97) dX11_init_504 (by decide) ?_
  refine rw_bipush 506 (v := 114) dX11_init_506 (by decide) ?_
  refine rw_bipush 508 (v := 115) dX11_init_508 (by decide) ?_
  refine rw_iconst 510 (v := 0) dX11_init_510 (by decide) ?_
  refine rw_iconst 511 (v := 0) dX11_init_511 (by decide) ?_
  refine rc_callSl 512 [.int 119, .int 101, .int 97, .int 114, .int 115, .int 0, .int 0] dX11_init_512 caX11_word lX11_159 stX11_word rfl naX11_word (Nat.le_of_ble_eq_true rfl) (Nat.le_of_ble_eq_true rfl) (by decide) (by decide) (fun _ hq => wX11_word 119 101 97 114 115 0 0 μ1012 hq) h (fun q1013 h => ?_)
  refine rc_lastc 515 dX11_init_515 ly_250 rln_250 (by decide) (j := 5) (by decide) h (fun μ1014 h => ?_)
  refine rw_aload_n 516 dX11_init_516 0 rfl ?_
  refine rw_getR 517 11 9 kc11 dX11_init_517 ly_243 rln_243 fX11_34 rfl rf_243_9 ?_
  refine rw_bipush 520 (v := 6) dX11_init_520 (by decide) ?_
  refine rw_bipush 522 (v := 115) dX11_init_522 (by decide) ?_
  refine rw_bipush 524 (v := 101) dX11_init_524 (by decide) ?_
  refine rw_bipush 526 (v := 108) dX11_init_526 (by decide) ?_
  refine rw_bipush 528 (v := 108) dX11_init_528 (by decide) ?_
  refine rw_bipush 530 (v := 115) dX11_init_530 (by decide) ?_
  refine rw_iconst 532 (v := 0) dX11_init_532 (by decide) ?_
  refine rw_iconst 533 (v := 0) dX11_init_533 (by decide) ?_
  refine rc_callSl 534 [.int 115, .int 101, .int 108, .int 108, .int 115, .int 0, .int 0] dX11_init_534 caX11_word lX11_159 stX11_word rfl naX11_word (Nat.le_of_ble_eq_true rfl) (Nat.le_of_ble_eq_true rfl) (by decide) (by decide) (fun _ hq => wX11_word 115 101 108 108 115 0 0 μ1014 hq) h (fun q1015 h => ?_)
  refine rc_lastc 537 dX11_init_537 ly_250 rln_250 (by decide) (j := 6) (by decide) h (fun μ1016 h => ?_)
  refine rw_aload_n 538 dX11_init_538 0 rfl ?_
  refine rw_getR 539 11 9 kc11 dX11_init_539 ly_243 rln_243 fX11_34 rfl rf_243_9 ?_
  refine rw_bipush 542 (v := 7) dX11_init_542 (by decide) ?_
  refine rw_bipush 544 (v := 100) dX11_init_544 (by decide) ?_
  refine rw_bipush 546 (v := 101) dX11_init_546 (by decide) ?_
  refine rw_bipush 548 (v := 97) dX11_init_548 (by decide) ?_
  refine rw_bipush 550 (v := 116) dX11_init_550 (by decide) ?_
  refine rw_bipush 552 (v := 104) dX11_init_552 (by decide) ?_
  refine rw_iconst 554 (v := 0) dX11_init_554 (by decide) ?_
  refine rw_iconst 555 (v := 0) dX11_init_555 (by decide) ?_
  refine rc_callSl 556 [.int 100, .int 101, .int 97, .int 116, .int 104, .int 0, .int 0] dX11_init_556 caX11_word lX11_159 stX11_word rfl naX11_word (Nat.le_of_ble_eq_true rfl) (Nat.le_of_ble_eq_true rfl) (by decide) (by decide) (fun _ hq => wX11_word 100 101 97 116 104 0 0 μ1016 hq) h (fun q1017 h => ?_)
  refine rc_lastc 559 dX11_init_559 ly_250 rln_250 (by decide) (j := 7) (by decide) h (fun μ1018 h => ?_)
  refine rw_aload_n 560 dX11_init_560 0 rfl ?_
  refine rw_getR 561 11 9 kc11 dX11_init_561 ly_243 rln_243 fX11_34 rfl rf_243_9 ?_
  refine rw_bipush 564 (v := 8) dX11_init_564 (by decide) ?_
  refine rw_bipush 566 (v := 115) dX11_init_566 (by decide) ?_
  refine rw_bipush 568 (v := 101) dX11_init_568 (by decide) ?_
  refine rw_bipush 570 (v := 101) dX11_init_570 (by decide) ?_
  refine rw_bipush 572 (v := 100) dX11_init_572 (by decide) ?_
  refine rw_iconst 574 (v := 0) dX11_init_574 (by decide) ?_
  refine rw_iconst 575 (v := 0) dX11_init_575 (by decide) ?_
  refine rw_iconst 576 (v := 0) dX11_init_576 (by decide) ?_
  refine rc_callSl 577 [.int 115, .int 101, .int 101, .int 100, .int 0, .int 0, .int 0] dX11_init_577 caX11_word lX11_159 stX11_word rfl naX11_word (Nat.le_of_ble_eq_true rfl) (Nat.le_of_ble_eq_true rfl) (by decide) (by decide) (fun _ hq => wX11_word 115 101 101 100 0 0 0 μ1018 hq) h (fun q1019 h => ?_)
  refine rc_lastc 580 dX11_init_580 ly_250 rln_250 (by decide) (j := 8) (by decide) h (fun μ1020 h => ?_)
  refine rw_aload_n 581 dX11_init_581 0 rfl ?_
  refine rw_getR 582 11 9 kc11 dX11_init_582 ly_243 rln_243 fX11_34 rfl rf_243_9 ?_
  refine rw_bipush 585 (v := 9) dX11_init_585 (by decide) ?_
  refine rw_bipush 587 (v := 105) dX11_init_587 (by decide) ?_
  refine rw_bipush 589 (v := 102) dX11_init_589 (by decide) ?_
  refine rw_iconst 591 (v := 0) dX11_init_591 (by decide) ?_
  refine rw_iconst 592 (v := 0) dX11_init_592 (by decide) ?_
  refine rw_iconst 593 (v := 0) dX11_init_593 (by decide) ?_
  refine rw_iconst 594 (v := 0) dX11_init_594 (by decide) ?_
  refine rw_iconst 595 (v := 0) dX11_init_595 (by decide) ?_
  refine rc_callSl 596 [.int 105, .int 102, .int 0, .int 0, .int 0, .int 0, .int 0] dX11_init_596 caX11_word lX11_159 stX11_word rfl naX11_word (Nat.le_of_ble_eq_true rfl) (Nat.le_of_ble_eq_true rfl) (by decide) (by decide) (fun _ hq => wX11_word 105 102 0 0 0 0 0 μ1020 hq) h (fun q1021 h => ?_)
  refine rc_lastc 599 dX11_init_599 ly_250 rln_250 (by decide) (j := 9) (by decide) h (fun μ1022 h => ?_)
  refine rw_aload_n 600 dX11_init_600 0 rfl ?_
  refine rw_getR 601 11 9 kc11 dX11_init_601 ly_243 rln_243 fX11_34 rfl rf_243_9 ?_
  refine rw_bipush 604 (v := 10) dX11_init_604 (by decide) ?_
  refine rw_bipush 606 (v := 116) dX11_init_606 (by decide) ?_
  refine rw_bipush 608 (v := 104) dX11_init_608 (by decide) ?_
  refine rw_bipush 610 (v := 101) dX11_init_610 (by decide) ?_
  refine rw_bipush 612 (v := 110) dX11_init_612 (by decide) ?_
  refine rw_iconst 614 (v := 0) dX11_init_614 (by decide) ?_
  refine rw_iconst 615 (v := 0) dX11_init_615 (by decide) ?_
  refine rw_iconst 616 (v := 0) dX11_init_616 (by decide) ?_
  refine rc_callSl 617 [.int 116, .int 104, .int 101, .int 110, .int 0, .int 0, .int 0] dX11_init_617 caX11_word lX11_159 stX11_word rfl naX11_word (Nat.le_of_ble_eq_true rfl) (Nat.le_of_ble_eq_true rfl) (by decide) (by decide) (fun _ hq => wX11_word 116 104 101 110 0 0 0 μ1022 hq) h (fun q1023 h => ?_)
  refine rc_lastc 620 dX11_init_620 ly_250 rln_250 (by decide) (j := 10) (by decide) h (fun μ1024 h => ?_)
  refine rw_aload_n 621 dX11_init_621 0 rfl ?_
  refine rw_getR 622 11 9 kc11 dX11_init_622 ly_243 rln_243 fX11_34 rfl rf_243_9 ?_
  refine rw_bipush 625 (v := 11) dX11_init_625 (by decide) ?_
  refine rw_bipush 627 (v := 101) dX11_init_627 (by decide) ?_
  refine rw_bipush 629 (v := 108) dX11_init_629 (by decide) ?_
  refine rw_bipush 631 (v := 115) dX11_init_631 (by decide) ?_
  refine rw_bipush 633 (v := 101) dX11_init_633 (by decide) ?_
  refine rw_iconst 635 (v := 0) dX11_init_635 (by decide) ?_
  refine rw_iconst 636 (v := 0) dX11_init_636 (by decide) ?_
  refine rw_iconst 637 (v := 0) dX11_init_637 (by decide) ?_
  refine rc_callSl 638 [.int 101, .int 108, .int 115, .int 101, .int 0, .int 0, .int 0] dX11_init_638 caX11_word lX11_159 stX11_word rfl naX11_word (Nat.le_of_ble_eq_true rfl) (Nat.le_of_ble_eq_true rfl) (by decide) (by decide) (fun _ hq => wX11_word 101 108 115 101 0 0 0 μ1024 hq) h (fun q1025 h => ?_)
  refine rc_lastc 641 dX11_init_641 ly_250 rln_250 (by decide) (j := 11) (by decide) h (fun μ1026 h => ?_)
  refine rw_aload_n 642 dX11_init_642 0 rfl ?_
  refine rw_getR 643 11 9 kc11 dX11_init_643 ly_243 rln_243 fX11_34 rfl rf_243_9 ?_
  refine rw_bipush 646 (v := 12) dX11_init_646 (by decide) ?_
  refine rw_bipush 648 (v := 102) dX11_init_648 (by decide) ?_
  refine rw_bipush 650 (v := 101) dX11_init_650 (by decide) ?_
  refine rw_bipush 652 (v := 101) dX11_init_652 (by decide) ?_
  refine rw_iconst 654 (v := 0) dX11_init_654 (by decide) ?_
  refine rw_iconst 655 (v := 0) dX11_init_655 (by decide) ?_
  refine rw_iconst 656 (v := 0) dX11_init_656 (by decide) ?_
  refine rw_iconst 657 (v := 0) dX11_init_657 (by decide) ?_
  refine rc_callSl 658 [.int 102, .int 101, .int 101, .int 0, .int 0, .int 0, .int 0] dX11_init_658 caX11_word lX11_159 stX11_word rfl naX11_word (Nat.le_of_ble_eq_true rfl) (Nat.le_of_ble_eq_true rfl) (by decide) (by decide) (fun _ hq => wX11_word 102 101 101 0 0 0 0 μ1026 hq) h (fun q1027 h => ?_)
  refine rc_lastc 661 dX11_init_661 ly_250 rln_250 (by decide) (j := 12) (by decide) h (fun μ1028 h => ?_)
  refine rw_aload_n 662 dX11_init_662 0 rfl ?_
  refine rw_getR 663 11 9 kc11 dX11_init_663 ly_243 rln_243 fX11_34 rfl rf_243_9 ?_
  refine rw_bipush 666 (v := 13) dX11_init_666 (by decide) ?_
  refine rw_bipush 668 (v := 104) dX11_init_668 (by decide) ?_
  refine rw_bipush 670 (v := 111) dX11_init_670 (by decide) ?_
  refine rw_bipush 672 (v := 117) dX11_init_672 (by decide) ?_
  refine rw_bipush 674 (v := 114) dX11_init_674 (by decide) ?_
  refine rw_bipush 676 (v := 115) dX11_init_676 (by decide) ?_
  refine rw_iconst 678 (v := 0) dX11_init_678 (by decide) ?_
  refine rw_iconst 679 (v := 0) dX11_init_679 (by decide) ?_
  refine rc_callSl 680 [.int 104, .int 111, .int 117, .int 114, .int 115, .int 0, .int 0] dX11_init_680 caX11_word lX11_159 stX11_word rfl naX11_word (Nat.le_of_ble_eq_true rfl) (Nat.le_of_ble_eq_true rfl) (by decide) (by decide) (fun _ hq => wX11_word 104 111 117 114 115 0 0 μ1028 hq) h (fun q1029 h => ?_)
  refine rc_lastc 683 dX11_init_683 ly_250 rln_250 (by decide) (j := 13) (by decide) h (fun μ1030 h => ?_)
  refine rw_aload_n 684 dX11_init_684 0 rfl ?_
  refine rw_getR 685 11 9 kc11 dX11_init_685 ly_243 rln_243 fX11_34 rfl rf_243_9 ?_
  refine rw_bipush 688 (v := 14) dX11_init_688 (by decide) ?_
  refine rw_bipush 690 (v := 104) dX11_init_690 (by decide) ?_
  refine rw_bipush 692 (v := 111) dX11_init_692 (by decide) ?_
  refine rw_bipush 694 (v := 117) dX11_init_694 (by decide) ?_
  refine rw_bipush 696 (v := 114) dX11_init_696 (by decide) ?_
  refine rw_iconst 698 (v := 0) dX11_init_698 (by decide) ?_
  refine rw_iconst 699 (v := 0) dX11_init_699 (by decide) ?_
  refine rw_iconst 700 (v := 0) dX11_init_700 (by decide) ?_
  refine rc_callSl 701 [.int 104, .int 111, .int 117, .int 114, .int 0, .int 0, .int 0] dX11_init_701 caX11_word lX11_159 stX11_word rfl naX11_word (Nat.le_of_ble_eq_true rfl) (Nat.le_of_ble_eq_true rfl) (by decide) (by decide) (fun _ hq => wX11_word 104 111 117 114 0 0 0 μ1030 hq) h (fun q1031 h => ?_)
  refine rc_lastc 704 dX11_init_704 ly_250 rln_250 (by decide) (j := 14) (by decide) h (fun μ1032 h => ?_)
  refine rw_aload_n 705 dX11_init_705 0 rfl ?_
  refine rw_getR 706 11 9 kc11 dX11_init_706 ly_243 rln_243 fX11_34 rfl rf_243_9 ?_
  refine rw_bipush 709 (v := 15) dX11_init_709 (by decide) ?_
  refine rw_bipush 711 (v := 114) dX11_init_711 (by decide) ?_
  refine rw_bipush 713 (v := 101) dX11_init_713 (by decide) ?_
  refine rw_bipush 715 (v := 115) dX11_init_715 (by decide) ?_
  refine rw_bipush 717 (v := 116) dX11_init_717 (by decide) ?_
  refine rw_bipush 719 (v := 101) dX11_init_719 (by decide) ?_
  refine rw_bipush 721 (v := 100) dX11_init_721 (by decide) ?_
  refine rw_iconst 723 (v := 0) dX11_init_723 (by decide) ?_
  refine rc_callSl 724 [.int 114, .int 101, .int 115, .int 116, .int 101, .int 100, .int 0] dX11_init_724 caX11_word lX11_159 stX11_word rfl naX11_word (Nat.le_of_ble_eq_true rfl) (Nat.le_of_ble_eq_true rfl) (by decide) (by decide) (fun _ hq => wX11_word 114 101 115 116 101 100 0 μ1032 hq) h (fun q1033 h => ?_)
  refine rc_lastc 727 dX11_init_727 ly_250 rln_250 (by decide) (j := 15) (by decide) h (fun μ1034 h => ?_)
  refine rw_aload_n 728 dX11_init_728 0 rfl ?_
  refine rw_getR 729 11 9 kc11 dX11_init_729 ly_243 rln_243 fX11_34 rfl rf_243_9 ?_
  refine rw_bipush 732 (v := 16) dX11_init_732 (by decide) ?_
  refine rw_bipush 734 (v := 119) dX11_init_734 (by decide) ?_
  refine rw_bipush 736 (v := 111) dX11_init_736 (by decide) ?_
  refine rw_bipush 738 (v := 114) dX11_init_738 (by decide) ?_
  refine rw_bipush 740 (v := 110) dX11_init_740 (by decide) ?_
  refine rw_iconst 742 (v := 0) dX11_init_742 (by decide) ?_
  refine rw_iconst 743 (v := 0) dX11_init_743 (by decide) ?_
  refine rw_iconst 744 (v := 0) dX11_init_744 (by decide) ?_
  refine rc_callSl 745 [.int 119, .int 111, .int 114, .int 110, .int 0, .int 0, .int 0] dX11_init_745 caX11_word lX11_159 stX11_word rfl naX11_word (Nat.le_of_ble_eq_true rfl) (Nat.le_of_ble_eq_true rfl) (by decide) (by decide) (fun _ hq => wX11_word 119 111 114 110 0 0 0 μ1034 hq) h (fun q1035 h => ?_)
  refine rc_lastc 748 dX11_init_748 ly_250 rln_250 (by decide) (j := 16) (by decide) h (fun μ1036 h => ?_)
  refine rw_aload_n 749 dX11_init_749 0 rfl ?_
  refine rw_getR 750 11 9 kc11 dX11_init_750 ly_243 rln_243 fX11_34 rfl rf_243_9 ?_
  refine rw_bipush 753 (v := 17) dX11_init_753 (by decide) ?_
  refine rw_bipush 755 (v := 119) dX11_init_755 (by decide) ?_
  refine rw_bipush 757 (v := 111) dX11_init_757 (by decide) ?_
  refine rw_bipush 759 (v := 114) dX11_init_759 (by decide) ?_
  refine rw_bipush 761 (v := 116) dX11_init_761 (by decide) ?_
  refine rw_bipush 763 (v := 104) dX11_init_763 (by decide) ?_
  refine rw_iconst 765 (v := 0) dX11_init_765 (by decide) ?_
  refine rw_iconst 766 (v := 0) dX11_init_766 (by decide) ?_
  refine rc_callSl 767 [.int 119, .int 111, .int 114, .int 116, .int 104, .int 0, .int 0] dX11_init_767 caX11_word lX11_159 stX11_word rfl naX11_word (Nat.le_of_ble_eq_true rfl) (Nat.le_of_ble_eq_true rfl) (by decide) (by decide) (fun _ hq => wX11_word 119 111 114 116 104 0 0 μ1036 hq) h (fun q1037 h => ?_)
  refine rc_lastc 770 dX11_init_770 ly_250 rln_250 (by decide) (j := 17) (by decide) h (fun μ1038 h => ?_)
  refine rw_aload_n 771 dX11_init_771 0 rfl ?_
  refine rw_getR 772 11 9 kc11 dX11_init_772 ly_243 rln_243 fX11_34 rfl rf_243_9 ?_
  refine rw_bipush 775 (v := 18) dX11_init_775 (by decide) ?_
  refine rw_bipush 777 (v := 119) dX11_init_777 (by decide) ?_
  refine rw_bipush 779 (v := 101) dX11_init_779 (by decide) ?_
  refine rw_bipush 781 (v := 101) dX11_init_781 (by decide) ?_
  refine rw_bipush 783 (v := 107) dX11_init_783 (by decide) ?_
  refine rw_iconst 785 (v := 0) dX11_init_785 (by decide) ?_
  refine rw_iconst 786 (v := 0) dX11_init_786 (by decide) ?_
  refine rw_iconst 787 (v := 0) dX11_init_787 (by decide) ?_
  refine rc_callSl 788 [.int 119, .int 101, .int 101, .int 107, .int 0, .int 0, .int 0] dX11_init_788 caX11_word lX11_159 stX11_word rfl naX11_word (Nat.le_of_ble_eq_true rfl) (Nat.le_of_ble_eq_true rfl) (by decide) (by decide) (fun _ hq => wX11_word 119 101 101 107 0 0 0 μ1038 hq) h (fun q1039 h => ?_)
  refine rc_lastc 791 dX11_init_791 ly_250 rln_250 (by decide) (j := 18) (by decide) h (fun μ1040 h => ?_)
  refine rw_aload_n 792 dX11_init_792 0 rfl ?_
  refine rw_getR 793 11 9 kc11 dX11_init_793 ly_243 rln_243 fX11_34 rfl rf_243_9 ?_
  refine rw_bipush 796 (v := 19) dX11_init_796 (by decide) ?_
  refine rw_bipush 798 (v := 119) dX11_init_798 (by decide) ?_
  refine rw_bipush 800 (v := 104) dX11_init_800 (by decide) ?_
  refine rw_bipush 802 (v := 105) dX11_init_802 (by decide) ?_
  refine rw_bipush 804 (v := 99) dX11_init_804 (by decide) ?_
  refine rw_bipush 806 (v := 104) dX11_init_806 (by decide) ?_
  refine rw_iconst 808 (v := 0) dX11_init_808 (by decide) ?_
  refine rw_iconst 809 (v := 0) dX11_init_809 (by decide) ?_
  refine rc_callSl 810 [.int 119, .int 104, .int 105, .int 99, .int 104, .int 0, .int 0] dX11_init_810 caX11_word lX11_159 stX11_word rfl naX11_word (Nat.le_of_ble_eq_true rfl) (Nat.le_of_ble_eq_true rfl) (by decide) (by decide) (fun _ hq => wX11_word 119 104 105 99 104 0 0 μ1040 hq) h (fun q1041 h => ?_)
  refine rc_lastc 813 dX11_init_813 ly_250 rln_250 (by decide) (j := 19) (by decide) h (fun μ1042 h => ?_)
  refine rw_aload_n 814 dX11_init_814 0 rfl ?_
  refine rw_getR 815 11 9 kc11 dX11_init_815 ly_243 rln_243 fX11_34 rfl rf_243_9 ?_
  refine rw_bipush 818 (v := 20) dX11_init_818 (by decide) ?_
  refine rw_bipush 820 (v := 111) dX11_init_820 (by decide) ?_
  refine rw_bipush 822 (v := 116) dX11_init_822 (by decide) ?_
  refine rw_bipush 824 (v := 104) dX11_init_824 (by decide) ?_
  refine rw_bipush 826 (v := 101) dX11_init_826 (by decide) ?_
  refine rw_bipush 828 (v := 114) dX11_init_828 (by decide) ?_
  refine rw_bipush 830 (v := 115) dX11_init_830 (by decide) ?_
  refine rw_iconst 832 (v := 0) dX11_init_832 (by decide) ?_
  refine rc_callSl 833 [.int 111, .int 116, .int 104, .int 101, .int 114, .int 115, .int 0] dX11_init_833 caX11_word lX11_159 stX11_word rfl naX11_word (Nat.le_of_ble_eq_true rfl) (Nat.le_of_ble_eq_true rfl) (by decide) (by decide) (fun _ hq => wX11_word 111 116 104 101 114 115 0 μ1042 hq) h (fun q1043 h => ?_)
  refine rc_lastc 836 dX11_init_836 ly_250 rln_250 (by decide) (j := 20) (by decide) h (fun μ1044 h => ?_)
  refine rw_aload_n 837 dX11_init_837 0 rfl ?_
  refine rc_callVv 838 11 [] dX11_init_838 caX11_begins lX11_163 inX11_begins slX11_begins rfl ly_243 ⟨_, rfl, rfl⟩ rln_243 naX11_begins (Nat.le_of_ble_eq_true rfl) (Nat.le_of_ble_eq_true rfl) (by decide) (by decide) (fun _ hq => wX11_begins  μ1044 hq) h (fun q1045 h => ?_)
  refine rw_aload_n 841 dX11_init_841 0 rfl ?_
  refine rc_callVv 842 11 [] dX11_init_842 caX11_keepsRow lX11_166 inX11_keepsRow slX11_keepsRow rfl ly_243 ⟨_, rfl, rfl⟩ rln_243 naX11_keepsRow (Nat.le_of_ble_eq_true rfl) (Nat.le_of_ble_eq_true rfl) (by decide) (by decide) (fun _ hq => wX11_keepsRow  q1045 hq) h (fun q1046 h => ?_)
  exact rc_vret 845 dX11_init_845 rfl h
