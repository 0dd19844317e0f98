theorem hpX0 : ∀ j, j < nfl 0 → fty 0 j = .int ∨ fty 0 j = .boolean ∨ isRt (fty 0 j) = true := by decide +kernel
theorem hpX1 : ∀ j, j < nfl 1 → fty 1 j = .int ∨ fty 1 j = .boolean ∨ isRt (fty 1 j) = true := by decide +kernel
theorem hpX2 : ∀ j, j < nfl 2 → fty 2 j = .int ∨ fty 2 j = .boolean ∨ isRt (fty 2 j) = true := by decide +kernel
theorem hpX3 : ∀ j, j < nfl 3 → fty 3 j = .int ∨ fty 3 j = .boolean ∨ isRt (fty 3 j) = true := by decide +kernel
theorem hpX4 : ∀ j, j < nfl 4 → fty 4 j = .int ∨ fty 4 j = .boolean ∨ isRt (fty 4 j) = true := by decide +kernel
theorem hpX5 : ∀ j, j < nfl 5 → fty 5 j = .int ∨ fty 5 j = .boolean ∨ isRt (fty 5 j) = true := by decide +kernel
theorem hpX6 : ∀ j, j < nfl 6 → fty 6 j = .int ∨ fty 6 j = .boolean ∨ isRt (fty 6 j) = true := by decide +kernel
theorem hpX7 : ∀ j, j < nfl 7 → fty 7 j = .int ∨ fty 7 j = .boolean ∨ isRt (fty 7 j) = true := by decide +kernel
theorem hpX8 : ∀ j, j < nfl 8 → fty 8 j = .int ∨ fty 8 j = .boolean ∨ isRt (fty 8 j) = true := by decide +kernel
theorem hpX9 : ∀ j, j < nfl 9 → fty 9 j = .int ∨ fty 9 j = .boolean ∨ isRt (fty 9 j) = true := by decide +kernel
theorem hpX10 : ∀ j, j < nfl 10 → fty 10 j = .int ∨ fty 10 j = .boolean ∨ isRt (fty 10 j) = true := by decide +kernel
theorem hpX11 : ∀ j, j < nfl 11 → fty 11 j = .int ∨ fty 11 j = .boolean ∨ isRt (fty 11 j) = true := by decide +kernel
def RX6_init_1 (R : Nat → Nat → Option Nat) : Nat → Nat → Option Nat := (wR (zR R 2) 1 0 (some 2))
def fX6_init_1 (μ : Mem) : Option Mem :=
  nm (zM μ 2) fun μ1 =>
  nm (wI μ1 1 1 0) fun μ2 =>
  some μ2

set_option maxRecDepth 100000 in
theorem wX6_init_1 (R : Nat → Nat → Option Nat)  (μ : Mem) {res : Mem} (h : fX6_init_1  μ = some res) : Ct mX6_init 2 2 3 [.ref 1] (μ, R, 2) (QC res (RX6_init_1  R) 3) := by
  unfold fX6_init_1 at h
  show RW mX6_init 2 2 3 0 [(0, .ref 1)] [] (μ, R, 2) _
  refine rw_aload_n 0 dX6_init_0 0 rfl ?_
  refine rw_objInit 1 dX6_init_1 lX6_3 wlI_obj wlC_obj (by decide) (Nat.le_of_ble_eq_true rfl) ?_
  refine rw_aload_n 4 dX6_init_4 0 rfl ?_
  refine rw_sipush 5 (v := 2000) dX6_init_5 (by decide) ?_
  refine rc_newa 8 (ty := 2) (ln := 2000) .byte rfl (by decide) dX6_init_8 ly_2 (by decide) (by decide) (by decide) wlA_byte (by decide) h (fun μ1 h => ?_)
  refine rc_putR 10 6 0 kc6 dX6_init_10 ly_1 (by decide) fX6_9 (fun q hq => by cases hq; rfl) rfl rfl ?_
  refine rw_aload_n 13 dX6_init_13 0 rfl ?_
  refine rw_iconst 14 (v := 0) dX6_init_14 (by decide) ?_
  refine rc_putI 15 6 1 kc6 dX6_init_15 ly_1 (by decide) fX6_15 (fun q hq => by cases hq; rfl) rfl rfl rfl rfl h (fun μ2 h => ?_)
  exact rc_vret 18 dX6_init_18 rfl h
def RX5_init (t : Nat) (R : Nat → Nat → Option Nat) : Nat → Nat → Option Nat := (wR (zR (wR (zR (wR (zR R (t + 1)) t 4 (some (t + 1))) (t + 2)) t 5 (some (t + 2))) (t + 3)) t 6 (some (t + 3)))
def fX5_init (t : Nat) (μ : Mem) : Option Mem :=
  nm (wI μ t 0 0) fun μ1 =>
  nm (wI μ1 t 1 0) fun μ2 =>
  nm (wI μ2 t 2 0) fun μ3 =>
  nm (wI μ3 t 3 0) fun μ4 =>
  nm (zM μ4 (t + 1)) fun μ5 =>
  nm (zM μ5 (t + 2)) fun μ6 =>
  nm (zM μ6 (t + 3)) fun μ7 =>
  some μ7

set_option maxRecDepth 100000 in
theorem wX5_init (t : Nat) (R : Nat → Nat → Option Nat) (hl0 : lay t = .inl 5) (hl1 : lay (t + 1) = .inr (0, 4)) (hl2 : lay (t + 2) = .inr (0, 4)) (hl3 : lay (t + 3) = .inr (0, 7)) (μ : Mem) {res : Mem} (h : fX5_init t μ = some res) : Ct mX5_init 2 (t + 1) (t + 4) [.ref t] (μ, R, (t + 1)) (QC res (RX5_init t R) (t + 4)) := by
  unfold fX5_init at h
  show RW mX5_init 2 (t + 1) (t + 4) 0 [(0, .ref t)] [] (μ, R, (t + 1)) _
  refine rw_aload_n 0 dX5_init_0 0 rfl ?_
  refine rw_objInit 1 dX5_init_1 lX5_3 wlI_obj wlC_obj (by decide) (Nat.le_of_ble_eq_true rfl) ?_
  refine rw_aload_n 4 dX5_init_4 0 rfl ?_
  refine rw_iconst 5 (v := 0) dX5_init_5 (by decide) ?_
  refine rc_putI 6 5 0 kc5 dX5_init_6 hl0 (by omega) fX5_9 (fun q hq => by cases hq; rfl) rfl rfl rfl rfl h (fun μ1 h => ?_)
  refine rw_aload_n 9 dX5_init_9 0 rfl ?_
  refine rw_iconst 10 (v := 0) dX5_init_10 (by decide) ?_
  refine rc_putI 11 5 1 kc5 dX5_init_11 hl0 (by omega) fX5_15 (fun q hq => by cases hq; rfl) rfl rfl rfl rfl h (fun μ2 h => ?_)
  refine rw_aload_n 14 dX5_init_14 0 rfl ?_
  refine rw_iconst 15 (v := 0) dX5_init_15 (by decide) ?_
  refine rc_putI 16 5 2 kc5 dX5_init_16 hl0 (by omega) fX5_18 (fun q hq => by cases hq; rfl) rfl rfl rfl rfl h (fun μ3 h => ?_)
  refine rw_aload_n 19 dX5_init_19 0 rfl ?_
  refine rw_iconst 20 (v := 0) dX5_init_20 (by decide) ?_
  refine rc_putI 21 5 3 kc5 dX5_init_21 hl0 (by omega) fX5_21 (fun q hq => by cases hq; rfl) rfl rfl rfl rfl h (fun μ4 h => ?_)
  refine rw_aload_n 24 dX5_init_24 0 rfl ?_
  refine rw_iconst 25 (v := 4) dX5_init_25 (by decide) ?_
  refine rc_newa 26 (ty := 0) (ln := 4) .int rfl (by decide) dX5_init_26 hl1 (by decide) (by decide) (by decide) wlA_int (by omega) h (fun μ5 h => ?_)
  refine rc_putR 28 5 4 kc5 dX5_init_28 hl0 (by omega) fX5_24 (fun q hq => by cases hq; rfl) rfl rfl ?_
  refine rw_aload_n 31 dX5_init_31 0 rfl ?_
  refine rw_iconst 32 (v := 4) dX5_init_32 (by decide) ?_
  refine rc_newa 33 (ty := 0) (ln := 4) .int rfl (by decide) dX5_init_33 hl2 (by decide) (by decide) (by decide) wlA_int (by omega) h (fun μ6 h => ?_)
  refine rc_putR 35 5 5 kc5 dX5_init_35 hl0 (by omega) fX5_28 (fun q hq => by cases hq; rfl) rfl rfl ?_
  refine rw_aload_n 38 dX5_init_38 0 rfl ?_
  refine rw_bipush 39 (v := 7) dX5_init_39 (by decide) ?_
  refine rc_newa 41 (ty := 0) (ln := 7) .int rfl (by decide) dX5_init_41 hl3 (by decide) (by decide) (by decide) wlA_int (by omega) h (fun μ7 h => ?_)
  refine rc_putR 43 5 6 kc5 dX5_init_43 hl0 (by omega) fX5_31 (fun q hq => by cases hq; rfl) rfl rfl ?_
  exact rc_vret 46 dX5_init_46 rfl h
def RX2_init_205 (R : Nat → Nat → Option Nat) : Nat → Nat → Option Nat := (wR (zR (wR (zR (wR (zR R 206) 205 0 (some 206)) 207) 205 1 (some 207)) 208) 205 2 (some 208))
def fX2_init_205 (μ : Mem) : Option Mem :=
  nm (zM μ 206) fun μ1 =>
  nm (zM μ1 207) fun μ2 =>
  nm (zM μ2 208) fun μ3 =>
  nm (wI μ3 205 3 0) fun μ4 =>
  some μ4

set_option maxRecDepth 100000 in
theorem wX2_init_205 (R : Nat → Nat → Option Nat)  (μ : Mem) {res : Mem} (h : fX2_init_205  μ = some res) : Ct mX2_init 2 206 209 [.ref 205] (μ, R, 206) (QC res (RX2_init_205  R) 209) := by
  unfold fX2_init_205 at h
  show RW mX2_init 2 206 209 0 [(0, .ref 205)] [] (μ, R, 206) _
  refine rw_aload_n 0 dX2_init_0 0 rfl ?_
  refine rw_objInit 1 dX2_init_1 lX2_3 wlI_obj wlC_obj (by decide) (Nat.le_of_ble_eq_true rfl) ?_
  refine rw_aload_n 4 dX2_init_4 0 rfl ?_
  refine rw_sipush 5 (v := 408) dX2_init_5 (by decide) ?_
  refine rc_newa 8 (ty := 0) (ln := 408) .int rfl (by decide) dX2_init_8 ly_206 (by decide) (by decide) (by decide) wlA_int (by decide) h (fun μ1 h => ?_)
  refine rc_putR 10 2 0 kc2 dX2_init_10 ly_205 (by decide) fX2_11 (fun q hq => by cases hq; rfl) rfl rfl ?_
  refine rw_aload_n 13 dX2_init_13 0 rfl ?_
  refine rw_sipush 14 (v := 408) dX2_init_14 (by decide) ?_
  refine rc_newa 17 (ty := 0) (ln := 408) .int rfl (by decide) dX2_init_17 ly_207 (by decide) (by decide) (by decide) wlA_int (by decide) h (fun μ2 h => ?_)
  refine rc_putR 19 2 1 kc2 dX2_init_19 ly_205 (by decide) fX2_15 (fun q hq => by cases hq; rfl) rfl rfl ?_
  refine rw_aload_n 22 dX2_init_22 0 rfl ?_
  refine rw_iconst 23 (v := 4) dX2_init_23 (by decide) ?_
  refine rc_newa 24 (ty := 0) (ln := 4) .int rfl (by decide) dX2_init_24 ly_208 (by decide) (by decide) (by decide) wlA_int (by decide) h (fun μ3 h => ?_)
  refine rc_putR 26 2 2 kc2 dX2_init_26 ly_205 (by decide) fX2_18 (fun q hq => by cases hq; rfl) rfl rfl ?_
  refine rw_aload_n 29 dX2_init_29 0 rfl ?_
  refine rw_iconst 30 (v := 0) dX2_init_30 (by decide) ?_
  refine rc_putI 31 2 3 kc2 dX2_init_31 ly_205 (by decide) fX2_21 (fun q hq => by cases hq; rfl) rfl rfl rfl rfl h (fun μ4 h => ?_)
  exact rc_vret 34 dX2_init_34 rfl h
def RX2_init_221 (R : Nat → Nat → Option Nat) : Nat → Nat → Option Nat := (wR (zR (wR (zR (wR (zR R 222) 221 0 (some 222)) 223) 221 1 (some 223)) 224) 221 2 (some 224))
def fX2_init_221 (μ : Mem) : Option Mem :=
  nm (zM μ 222) fun μ1 =>
  nm (zM μ1 223) fun μ2 =>
  nm (zM μ2 224) fun μ3 =>
  nm (wI μ3 221 3 0) fun μ4 =>
  some μ4

set_option maxRecDepth 100000 in
theorem wX2_init_221 (R : Nat → Nat → Option Nat)  (μ : Mem) {res : Mem} (h : fX2_init_221  μ = some res) : Ct mX2_init 2 222 225 [.ref 221] (μ, R, 222) (QC res (RX2_init_221  R) 225) := by
  unfold fX2_init_221 at h
  show RW mX2_init 2 222 225 0 [(0, .ref 221)] [] (μ, R, 222) _
  refine rw_aload_n 0 dX2_init_0 0 rfl ?_
  refine rw_objInit 1 dX2_init_1 lX2_3 wlI_obj wlC_obj (by decide) (Nat.le_of_ble_eq_true rfl) ?_
  refine rw_aload_n 4 dX2_init_4 0 rfl ?_
  refine rw_sipush 5 (v := 408) dX2_init_5 (by decide) ?_
  refine rc_newa 8 (ty := 0) (ln := 408) .int rfl (by decide) dX2_init_8 ly_222 (by decide) (by decide) (by decide) wlA_int (by decide) h (fun μ1 h => ?_)
  refine rc_putR 10 2 0 kc2 dX2_init_10 ly_221 (by decide) fX2_11 (fun q hq => by cases hq; rfl) rfl rfl ?_
  refine rw_aload_n 13 dX2_init_13 0 rfl ?_
  refine rw_sipush 14 (v := 408) dX2_init_14 (by decide) ?_
  refine rc_newa 17 (ty := 0) (ln := 408) .int rfl (by decide) dX2_init_17 ly_223 (by decide) (by decide) (by decide) wlA_int (by decide) h (fun μ2 h => ?_)
  refine rc_putR 19 2 1 kc2 dX2_init_19 ly_221 (by decide) fX2_15 (fun q hq => by cases hq; rfl) rfl rfl ?_
  refine rw_aload_n 22 dX2_init_22 0 rfl ?_
  refine rw_iconst 23 (v := 4) dX2_init_23 (by decide) ?_
  refine rc_newa 24 (ty := 0) (ln := 4) .int rfl (by decide) dX2_init_24 ly_224 (by decide) (by decide) (by decide) wlA_int (by decide) h (fun μ3 h => ?_)
  refine rc_putR 26 2 2 kc2 dX2_init_26 ly_221 (by decide) fX2_18 (fun q hq => by cases hq; rfl) rfl rfl ?_
  refine rw_aload_n 29 dX2_init_29 0 rfl ?_
  refine rw_iconst 30 (v := 0) dX2_init_30 (by decide) ?_
  refine rc_putI 31 2 3 kc2 dX2_init_31 ly_221 (by decide) fX2_21 (fun q hq => by cases hq; rfl) rfl rfl rfl rfl h (fun μ4 h => ?_)
  exact rc_vret 34 dX2_init_34 rfl h
def RX1_init_180 (R : Nat → Nat → Option Nat) : Nat → Nat → Option Nat := (wR (zR (wR (zR R 181) 180 0 (some 181)) 182) 180 1 (some 182))
def fX1_init_180 (μ : Mem) : Option Mem :=
  nm (zM μ 181) fun μ1 =>
  nm (zM μ1 182) fun μ2 =>
  some μ2

set_option maxRecDepth 100000 in
theorem wX1_init_180 (R : Nat → Nat → Option Nat)  (μ : Mem) {res : Mem} (h : fX1_init_180  μ = some res) : Ct mX1_init 2 181 183 [.ref 180] (μ, R, 181) (QC res (RX1_init_180  R) 183) := by
  unfold fX1_init_180 at h
  show RW mX1_init 2 181 183 0 [(0, .ref 180)] [] (μ, R, 181) _
  refine rw_aload_n 0 dX1_init_0 0 rfl ?_
  refine rw_objInit 1 dX1_init_1 lX1_3 wlI_obj wlC_obj (by decide) (Nat.le_of_ble_eq_true rfl) ?_
  refine rw_aload_n 4 dX1_init_4 0 rfl ?_
  refine rw_bipush 5 (v := 9) dX1_init_5 (by decide) ?_
  refine rc_newa 7 (ty := 0) (ln := 9) .int rfl (by decide) dX1_init_7 ly_181 (by decide) (by decide) (by decide) wlA_int (by decide) h (fun μ1 h => ?_)
  refine rc_putR 9 1 0 kc1 dX1_init_9 ly_180 (by decide) fX1_9 (fun q hq => by cases hq; rfl) rfl rfl ?_
  refine rw_aload_n 12 dX1_init_12 0 rfl ?_
  refine rw_bipush 13 (v := 16) dX1_init_13 (by decide) ?_
  refine rc_newa 15 (ty := 0) (ln := 16) .int rfl (by decide) dX1_init_15 ly_182 (by decide) (by decide) (by decide) wlA_int (by decide) h (fun μ2 h => ?_)
  refine rc_putR 17 1 1 kc1 dX1_init_17 ly_180 (by decide) fX1_17 (fun q hq => by cases hq; rfl) rfl rfl ?_
  exact rc_vret 20 dX1_init_20 rfl h
def RX3_init_183 (R : Nat → Nat → Option Nat) : Nat → Nat → Option Nat := (wR (zR (wR (zRs (wR (zRs R 184 4) 183 0 (some 184)) 189 5) 183 1 (some 189)) 195) 183 2 (some 195))
def fX3_init_183 (μ : Mem) : Option Mem :=
  nm (zMs μ 184 4) fun μ1 =>
  nm (zMs μ1 189 5) fun μ2 =>
  nm (zM μ2 195) fun μ3 =>
  some μ3

set_option maxRecDepth 100000 in
theorem wX3_init_183 (R : Nat → Nat → Option Nat)  (μ : Mem) {res : Mem} (h : fX3_init_183  μ = some res) : Ct mX3_init 2 184 196 [.ref 183] (μ, R, 184) (QC res (RX3_init_183  R) 196) := by
  unfold fX3_init_183 at h
  show RW mX3_init 2 184 196 0 [(0, .ref 183)] [] (μ, R, 184) _
  refine rw_aload_n 0 dX3_init_0 0 rfl ?_
  refine rw_objInit 1 dX3_init_1 lX3_3 wlI_obj wlC_obj (by decide) (Nat.le_of_ble_eq_true rfl) ?_
  refine rw_aload_n 4 dX3_init_4 0 rfl ?_
  refine rw_iconst 5 (v := 4) dX3_init_5 (by decide) ?_
  refine rw_sipush 6 (v := 128) dX3_init_6 (by decide) ?_
  refine rc_mna 9 (N := 4) (K9 := 128) dX3_init_9 ly_184 (by decide +kernel) (by decide) (by decide) (by decide) (by decide) (by decide) (by decide) lX3_9 wlA_int (by decide) h (fun μ1 h => ?_)
  refine rc_putR 13 3 0 kc3 dX3_init_13 ly_183 (by decide) fX3_11 (fun q hq => by cases hq; rfl) rfl rfl ?_
  refine rw_aload_n 16 dX3_init_16 0 rfl ?_
  refine rw_iconst 17 (v := 5) dX3_init_17 (by decide) ?_
  refine rw_sipush 18 (v := 128) dX3_init_18 (by decide) ?_
  refine rc_mna 21 (N := 5) (K9 := 128) dX3_init_21 ly_189 (by decide +kernel) (by decide) (by decide) (by decide) (by decide) (by decide) (by decide) lX3_9 wlA_int (by decide) h (fun μ2 h => ?_)
  refine rc_putR 25 3 1 kc3 dX3_init_25 ly_183 (by decide) fX3_16 (fun q hq => by cases hq; rfl) rfl rfl ?_
  refine rw_aload_n 28 dX3_init_28 0 rfl ?_
  refine rw_bipush 29 (v := 7) dX3_init_29 (by decide) ?_
  refine rc_newa 31 (ty := 0) (ln := 7) .int rfl (by decide) dX3_init_31 ly_195 (by decide) (by decide) (by decide) wlA_int (by decide) h (fun μ3 h => ?_)
  refine rc_putR 33 3 2 kc3 dX3_init_33 ly_183 (by decide) fX3_19 (fun q hq => by cases hq; rfl) rfl rfl ?_
  exact rc_vret 36 dX3_init_36 rfl h
def RX0_init_196 (R : Nat → Nat → Option Nat) : Nat → Nat → Option Nat := (wR (zR (wR (zR R 197) 196 1 (some 197)) 198) 196 2 (some 198))
def fX0_init_196 (μ : Mem) : Option Mem :=
  nm (wI μ 196 0 0) fun μ1 =>
  nm (zM μ1 197) fun μ2 =>
  nm (zM μ2 198) fun μ3 =>
  some μ3

set_option maxRecDepth 100000 in
theorem wX0_init_196 (R : Nat → Nat → Option Nat)  (μ : Mem) {res : Mem} (h : fX0_init_196  μ = some res) : Ct mX0_init 2 197 199 [.ref 196] (μ, R, 197) (QC res (RX0_init_196  R) 199) := by
  unfold fX0_init_196 at h
  show RW mX0_init 2 197 199 0 [(0, .ref 196)] [] (μ, R, 197) _
  refine rw_aload_n 0 dX0_init_0 0 rfl ?_
  refine rw_objInit 1 dX0_init_1 lX0_3 wlI_obj wlC_obj (by decide) (Nat.le_of_ble_eq_true rfl) ?_
  refine rw_aload_n 4 dX0_init_4 0 rfl ?_
  refine rw_iconst 5 (v := 0) dX0_init_5 (by decide) ?_
  refine rc_putI 6 0 0 kc0 dX0_init_6 ly_196 (by decide) fX0_9 (fun q hq => by cases hq; rfl) rfl rfl rfl rfl h (fun μ1 h => ?_)
  refine rw_aload_n 9 dX0_init_9 0 rfl ?_
  refine rw_bipush 10 (v := 20) dX0_init_10 (by decide) ?_
  refine rc_newa 12 (ty := 0) (ln := 20) .int rfl (by decide) dX0_init_12 ly_197 (by decide) (by decide) (by decide) wlA_int (by decide) h (fun μ2 h => ?_)
  refine rc_putR 14 0 1 kc0 dX0_init_14 ly_196 (by decide) fX0_15 (fun q hq => by cases hq; rfl) rfl rfl ?_
  refine rw_aload_n 17 dX0_init_17 0 rfl ?_
  refine rw_bipush 18 (v := 20) dX0_init_18 (by decide) ?_
  refine rc_newa 20 (ty := 3) (ln := 20) .boolean rfl (by decide) dX0_init_20 ly_198 (by decide) (by decide) (by decide) wlA_boolean (by decide) h (fun μ3 h => ?_)
  refine rc_putR 22 0 2 kc0 dX0_init_22 ly_196 (by decide) fX0_19 (fun q hq => by cases hq; rfl) rfl rfl ?_
  exact rc_vret 25 dX0_init_25 rfl h
def chW (i : Int32) : Int32 := byW.getD i.toNatClampNeg 0
def fX8_lp : Nat → Int32 → Int32 → Mem → Option Mem
  | 0, _, _, _ => none
  | n + 1, wd, i, μ =>
    if i < 116 then
      if wd < 21 then
        if inb i 116 then
        nm (chW i) fun ch =>
        if ch = 32 then
          fX8_lp n (wd + 1) (i + 1) μ
        else
          if inb wd 21 then
          if inb wd 21 then nm (wJ μ 8 wd.toNatClampNeg ((lsh (μ.2 8 wd.toNatClampNeg) 5) ||| ((ch - 97) + 1).toInt64)) fun μ1 =>
          fX8_lp n wd (i + 1) μ1
          else none
          else none
        else none
      else some μ
    else some μ
set_option maxRecDepth 100000 in
theorem wX8_lp (R : Nat → Nat → Option Nat) (hr : R 4 3 = some 8) {res : Mem} : ∀ (n : Nat) (wd i : Int32) (μ : Mem), fX8_lp n wd i μ = some res → RW mX8_init 9 5 9 48 [(0, .ref 4), (1, .int wd), (2, .int i)] [] (μ, R, 9) (QC res R 9) := by
  intro n
  induction n with
  | zero => intro _ _ _ h; cases h
  | succ n ih =>
    intro wd i μ h
    unfold fX8_lp at h
    refine rw_iload_n 48 dX8_init_48 2 rfl ?_
    refine rw_ldcW 49 dX8_init_49 rfl ?_
    refine rw_lenW 51 dX8_init_51 rfl (by decide) (Nat.le_of_ble_eq_true rfl) ?_
    refine rw_icmp_ge 54 110 dX8_init_54 (by decide) (fun c1 => ?_) (fun c1 => ?_)
    · have h := if_F h (Int32.not_lt.mpr c1)
      exact rc_vret 110 dX8_init_110 rfl h
    · have h := if_T h (Int32.not_le.mp c1)
      refine rw_iload_n 57 dX8_init_57 1 rfl ?_
      refine rw_bipush 58 (v := 21) dX8_init_58 (by decide) ?_
      refine rw_icmp_ge 60 110 dX8_init_60 (by decide) (fun c2 => ?_) (fun c2 => ?_)
      · have h := if_F h (Int32.not_lt.mpr c2)
        exact rc_vret 110 dX8_init_110 rfl h
      · have h := if_T h (Int32.not_le.mp c2)
        obtain ⟨hi, h⟩ := if_g h
        refine rw_ldcW 63 dX8_init_63 rfl ?_
        refine rw_iload_n 65 dX8_init_65 2 rfl ?_
        refine rw_chrW 66 dX8_init_66 rfl (by decide) (Nat.le_of_ble_eq_true rfl) hi ?_
        have h : (fun ch => if ch = 32 then fX8_lp n (wd + 1) (i + 1) μ else if inb wd 21 then (if inb wd 21 then nm (wJ μ 8 wd.toNatClampNeg ((lsh (μ.2 8 wd.toNatClampNeg) 5) ||| ((ch - 97) + 1).toInt64)) fun μ1 => fX8_lp n wd (i + 1) μ1 else none) else none) (chW i) = some res := h
        show RW mX8_init 9 5 9 69 [(0, .ref 4), (1, .int wd), (2, .int i)] [.int (chW i)] (μ, R, 9) (QC res R 9)
        generalize chW i = ch at h ⊢
        dsimp only at h
        refine rw_istore_n 69 [(0, .ref 4), (1, .int wd), (2, .int i), (3, .int ch)] dX8_init_69 (by decide) rfl ?_
        refine rw_iload_n 70 dX8_init_70 3 rfl ?_
        refine rw_bipush 71 (v := 32) dX8_init_71 (by decide) ?_
        refine rw_icmp_ne 73 82 dX8_init_73 (by decide) (fun c3 => ?_) (fun c3 => ?_)
        · have h := if_F h c3
          obtain ⟨hw, h⟩ := if_g h
          obtain ⟨-, h⟩ := if_g h
          refine rw_aload_n 82 dX8_init_82 0 rfl ?_
          refine rw_getR 83 8 3 kc8 dX8_init_83 ly_4 (show 4 < 9 by decide) fX8_22 rfl hr ?_
          refine rw_iload_n 86 dX8_init_86 1 rfl ?_
          refine rw_aload_n 87 dX8_init_87 0 rfl ?_
          refine rw_getR 88 8 3 kc8 dX8_init_88 ly_4 (show 4 < 9 by decide) fX8_22 rfl hr ?_
          refine rw_iload_n 91 dX8_init_91 1 rfl ?_
          refine rw_lald 92 dX8_init_92 ly_8 (show 8 < 9 by decide) hw ?_
          refine rw_iconst 93 (v := 5) dX8_init_93 (by decide) ?_
          refine rw_lshl 94 dX8_init_94 ?_
          refine rw_iload_n 95 dX8_init_95 3 rfl ?_
          refine rw_bipush 96 (v := 97) dX8_init_96 (by decide) ?_
          refine rw_isub 98 dX8_init_98 ?_
          refine rw_iconst 99 (v := 1) dX8_init_99 (by decide) ?_
          refine rw_iadd 100 dX8_init_100 ?_
          refine rw_i2l 101 dX8_init_101 ?_
          refine rw_lor 102 dX8_init_102 ?_
          refine rw_last 103 dX8_init_103 ly_8 (show 8 < 9 by decide) hw ?_
          refine rw_iinc 104 [(0, .ref 4), (1, .int wd), (2, .int (i + 1)), (3, .int ch)] dX8_init_104 2 rfl rfl (by decide) rfl ?_
          refine rw_goto 107 48 dX8_init_107 (by decide) ?_
          refine rw_pick 48 [0, 1, 2] rfl ?_
          exact ih wd (i + 1) _ h
        · have h := if_T h c3
          refine rw_iinc 76 [(0, .ref 4), (1, .int (wd + 1)), (2, .int i), (3, .int ch)] dX8_init_76 1 rfl rfl (by decide) rfl ?_
          refine rw_goto 79 104 dX8_init_79 (by decide) ?_
          refine rw_iinc 104 [(0, .ref 4), (1, .int (wd + 1)), (2, .int (i + 1)), (3, .int ch)] dX8_init_104 2 rfl rfl (by decide) rfl ?_
          refine rw_goto 107 48 dX8_init_107 (by decide) ?_
          refine rw_pick 48 [0, 1, 2] rfl ?_
          exact ih (wd + 1) (i + 1) μ h

def RX8_init_4 (R : Nat → Nat → Option Nat) : Nat → Nat → Option Nat := (wR (zR (wR (zR (wR (zR (wR (zR R 5) 4 0 (some 5)) 6) 4 1 (some 6)) 7) 4 2 (some 7)) 8) 4 3 (some 8))
def fX8_init_4 (μ : Mem) : Option Mem :=
  nm (zM μ 5) fun μ1 =>
  nm (zM μ1 6) fun μ2 =>
  nm (zM μ2 7) fun μ3 =>
  nm (zM μ3 8) fun μ4 =>
  nm (wI μ4 4 4 0) fun μ5 =>
  fX8_lp FU 0 0 μ5

set_option maxRecDepth 100000 in
theorem wX8_init_4 (R : Nat → Nat → Option Nat)  (μ : Mem) {res : Mem} (h : fX8_init_4  μ = some res) : Ct mX8_init 9 5 9 [.ref 4] (μ, R, 5) (QC res (RX8_init_4  R) 9) := by
  unfold fX8_init_4 at h
  show RW mX8_init 9 5 9 0 [(0, .ref 4)] [] (μ, R, 5) _
  refine rw_aload_n 0 dX8_init_0 0 rfl ?_
  refine rw_objInit 1 dX8_init_1 lX8_3 wlI_obj wlC_obj (by decide) (Nat.le_of_ble_eq_true rfl) ?_
  refine rw_aload_n 4 dX8_init_4 0 rfl ?_
  refine rw_sipush 5 (v := 402) dX8_init_5 (by decide) ?_
  refine rc_newa 8 (ty := 0) (ln := 402) .int rfl (by decide) dX8_init_8 ly_5 (by decide) (by decide) (by decide) wlA_int (by decide) h (fun μ1 h => ?_)
  refine rc_putR 10 8 0 kc8 dX8_init_10 ly_4 (by decide) fX8_9 (fun q hq => by cases hq; rfl) rfl rfl ?_
  refine rw_aload_n 13 dX8_init_13 0 rfl ?_
  refine rw_sipush 14 (v := 402) dX8_init_14 (by decide) ?_
  refine rc_newa 17 (ty := 0) (ln := 402) .int rfl (by decide) dX8_init_17 ly_6 (by decide) (by decide) (by decide) wlA_int (by decide) h (fun μ2 h => ?_)
  refine rc_putR 19 8 1 kc8 dX8_init_19 ly_4 (by decide) fX8_15 (fun q hq => by cases hq; rfl) rfl rfl ?_
  refine rw_aload_n 22 dX8_init_22 0 rfl ?_
  refine rw_sipush 23 (v := 402) dX8_init_23 (by decide) ?_
  refine rc_newa 26 (ty := 1) (ln := 402) .long rfl (by decide) dX8_init_26 ly_7 (by decide) (by decide) (by decide) wlA_long (by decide) h (fun μ3 h => ?_)
  refine rc_putR 28 8 2 kc8 dX8_init_28 ly_4 (by decide) fX8_18 (fun q hq => by cases hq; rfl) rfl rfl ?_
  refine rw_aload_n 31 dX8_init_31 0 rfl ?_
  refine rw_bipush 32 (v := 21) dX8_init_32 (by decide) ?_
  refine rc_newa 34 (ty := 1) (ln := 21) .long rfl (by decide) dX8_init_34 ly_8 (by decide) (by decide) (by decide) wlA_long (by decide) h (fun μ4 h => ?_)
  refine rc_putR 36 8 3 kc8 dX8_init_36 ly_4 (by decide) fX8_22 (fun q hq => by cases hq; rfl) rfl rfl ?_
  refine rw_aload_n 39 dX8_init_39 0 rfl ?_
  refine rw_iconst 40 (v := 0) dX8_init_40 (by decide) ?_
  refine rc_putI 41 8 4 kc8 dX8_init_41 ly_4 (by decide) fX8_25 (fun q hq => by cases hq; rfl) rfl rfl rfl rfl h (fun μ5 h => ?_)
  refine rw_iconst 44 (v := 0) dX8_init_44 (by decide) ?_
  refine rw_istore_n 45 [(0, .ref 4), (1, .int 0)] dX8_init_45 (by decide) rfl ?_
  refine rw_iconst 46 (v := 0) dX8_init_46 (by decide) ?_
  refine rw_istore_n 47 [(0, .ref 4), (1, .int 0), (2, .int 0)] dX8_init_47 (by decide) rfl ?_
  exact wX8_lp (wR (zR (wR (zR (wR (zR (wR (zR R 5) 4 0 (some 5)) 6) 4 1 (some 6)) 7) 4 2 (some 7)) 8) 4 3 (some 8)) (by simp [wR, zR]) FU 0 0 μ5 h
def RX4_init_3 (R : Nat → Nat → Option Nat) : Nat → Nat → Option Nat := (wR (RX8_init_4 (zR R 4)) 3 2 (some 4))
def fX4_init_3 (μ : Mem) : Option Mem :=
  nm (wI μ 3 0 0) fun μ1 =>
  nm (wI μ1 3 1 (-1)) fun μ2 =>
  nm (zM μ2 4) fun μ3 =>
  (fX8_init_4 μ3).bind fun q4 =>
  nm (wI q4 3 3 0) fun μ5 =>
  nm (wI μ5 3 4 0) fun μ6 =>
  nm (wI μ6 3 5 (-1)) fun μ7 =>
  some μ7

set_option maxRecDepth 100000 in
theorem wX4_init_3 (R : Nat → Nat → Option Nat)  (μ : Mem) {res : Mem} (h : fX4_init_3  μ = some res) : Ct mX4_init 10 4 9 [.ref 3] (μ, R, 4) (QC res (RX4_init_3  R) 9) := by
  unfold fX4_init_3 at h
  show RW mX4_init 10 4 9 0 [(0, .ref 3)] [] (μ, R, 4) _
  refine rw_aload_n 0 dX4_init_0 0 rfl ?_
  refine rw_objInit 1 dX4_init_1 lX4_3 wlI_obj wlC_obj (by decide) (Nat.le_of_ble_eq_true rfl) ?_
  refine rw_aload_n 4 dX4_init_4 0 rfl ?_
  refine rw_iconst 5 (v := 0) dX4_init_5 (by decide) ?_
  refine rc_putI 6 4 0 kc4 dX4_init_6 ly_3 (by decide) fX4_9 (fun q hq => by cases hq; rfl) rfl rfl rfl rfl h (fun μ1 h => ?_)
  refine rw_aload_n 9 dX4_init_9 0 rfl ?_
  refine rw_iconst 10 (v := -1) dX4_init_10 (by decide) ?_
  refine rc_putI 11 4 1 kc4 dX4_init_11 ly_3 (by decide) fX4_15 (fun q hq => by cases hq; rfl) rfl rfl rfl rfl h (fun μ2 h => ?_)
  refine rw_aload_n 14 dX4_init_14 0 rfl ?_
  refine rc_new 15 8 kc8 hpX8 dX4_init_15 ly_4 (fun q hq => by cases hq; exact lX4_18) (by decide) h (fun μ3 h => ?_)
  refine rw_dup 18 dX4_init_18 rfl ?_
  refine rc_callI 19 (n2 := 9) dX4_init_19 caX8_init rfl rfl lX4_20 inX8_init naX8_init (by decide) (Nat.le_of_ble_eq_true rfl) (by decide) (by decide) (by decide) (fun _ hq => wX8_init_4 (zR R 4) μ3 hq) h (fun q4 h => ?_)
  refine rc_putR 22 4 2 kc4 dX4_init_22 ly_3 (by decide) fX4_21 (fun q hq => by cases hq; rfl) rfl rfl ?_
  refine rw_aload_n 25 dX4_init_25 0 rfl ?_
  refine rw_iconst 26 (v := 0) dX4_init_26 (by decide) ?_
  refine rc_putI 27 4 3 kc4 dX4_init_27 ly_3 (by decide) fX4_25 (fun q hq => by cases hq; rfl) rfl rfl rfl rfl h (fun μ5 h => ?_)
  refine rw_aload_n 30 dX4_init_30 0 rfl ?_
  refine rw_iconst 31 (v := 0) dX4_init_31 (by decide) ?_
  refine rc_putI 32 4 4 kc4 dX4_init_32 ly_3 (by decide) fX4_28 (fun q hq => by cases hq; rfl) rfl rfl rfl rfl h (fun μ6 h => ?_)
  refine rw_aload_n 35 dX4_init_35 0 rfl ?_
  refine rw_iconst 36 (v := -1) dX4_init_36 (by decide) ?_
  refine rc_putI 37 4 5 kc4 dX4_init_37 ly_3 (by decide) fX4_31 (fun q hq => by cases hq; rfl) rfl rfl rfl rfl h (fun μ7 h => ?_)
  exact rc_vret 40 dX4_init_40 rfl h
def ringR (R : Nat → Nat → Option Nat) : Nat → Nat → Nat → Option Nat
  | 0 => R
  | i + 1 => wR (RX5_init (19 + 4 * i) (zR (ringR R i) (19 + 4 * i))) 18 i (some (19 + 4 * i))
theorem ringR_lo (R : Nat → Nat → Option Nat) {a : Nat} (j : Nat) (ha : a < 18) : ∀ i, ringR R i a j = R a j
  | 0 => rfl
  | i + 1 => by
    show wR (RX5_init (19 + 4 * i) (zR (ringR R i) (19 + 4 * i))) 18 i (some (19 + 4 * i)) a j = _
    rw [← ringR_lo R j ha i]
    have h1 : a ≠ 18 := by omega
    have h2 : a ≠ 19 + 4 * i := by omega
    have h3 : a ≠ 19 + 4 * i + 1 := by omega
    have h4 : a ≠ 19 + 4 * i + 2 := by omega
    have h5 : a ≠ 19 + 4 * i + 3 := by omega
    simp [wR, zR, RX5_init, h1, h2, h3, h4, h5]
def fX9_lp : Nat → Nat → Mem → Option Mem
  | 0, _, μ => some μ
  | k + 1, i, μ => (fX5_init (19 + 4 * i) (zM μ (19 + 4 * i))).bind fun μ1 => fX9_lp k (i + 1) μ1
set_option maxRecDepth 100000 in
theorem wX9_lp (R : Nat → Nat → Option Nat) (hr : R 17 1 = some 18) {res : Mem} : ∀ (k i : Nat) (μ : Mem), i + k = 40 → fX9_lp k i μ = some res → RW mX9_init 4 18 179 25 [(0, .ref 17), (1, .int (nI i))] [] (μ, ringR R i, 19 + 4 * i) (QC res (ringR R 40) 179) := by
  intro k
  induction k with
  | zero =>
    intro i μ hik h
    have hi : i = 40 := by omega
    subst hi
    refine rw_iload_n 25 dX9_init_25 1 rfl ?_
    refine rw_bipush 26 (v := 40) dX9_init_26 (by decide) ?_
    refine rw_icmp_ge 28 50 dX9_init_28 (by decide) (fun _ => ?_) (fun c => absurd (by decide) c)
    exact rc_vret 50 dX9_init_50 rfl h
  | succ k ih =>
    intro i μ hik h
    have hi : i < 40 := by omega
    have hin : inb (nI i) 40 := nI_in hi (by decide)
    have hcl : (nI i).toNatClampNeg = i := nI_clamp (by omega)
    obtain ⟨q, hq, h⟩ := bind_g h
    refine rw_iload_n 25 dX9_init_25 1 rfl ?_
    refine rw_bipush 26 (v := 40) dX9_init_26 (by decide) ?_
    refine rw_icmp_ge 28 50 dX9_init_28 (by decide) (fun c => absurd (show nI 40 ≤ nI i from c) (nI_ge hi (by decide))) (fun _ => ?_)
    refine rw_aload_n 31 dX9_init_31 0 rfl ?_
    refine rw_getR 32 9 1 kc9 dX9_init_32 ly_17 (show 17 < 19 + 4 * i by omega) fX9_17 rfl (b := 18) (by show ringR R i 17 1 = _; rw [ringR_lo R _ (by decide)]; exact hr) ?_
    refine rw_iload_n 35 dX9_init_35 1 rfl ?_
    have hok := okr_18 i hi
    have hlt : 19 + 4 * i + 3 < 179 := by omega
    refine rw_new 36 5 kc5 hpX5 dX9_init_36 (o5l hok) (fun q hq => by cases hq; exact lX9_15) (show 19 + 4 * i < 179 by omega) ?_
    refine rw_dup 39 dX9_init_39 rfl ?_
    refine rw_callIN 40 [] (n2 := 19 + 4 * i + 4) (d' := 2) (Q2 := QC q (RX5_init (19 + 4 * i) (zR (ringR R i) (19 + 4 * i))) (19 + 4 * i + 4)) dX9_init_40 caX5_init rfl rfl RX10 (by decide +kernel) inX5_init rfl naX5_init (Nat.le_of_ble_eq_true rfl) (Nat.le_of_ble_eq_true rfl) (by decide) (show 19 + 4 * i + 1 ≤ 19 + 4 * i + 4 by omega) (show 19 + 4 * i + 4 ≤ 179 by omega) (wX5_init (19 + 4 * i) _ (o5l hok) (o5l4 hok) (o5l5 hok) (o5l6 hok) _ hq) ?_
    intro r σ2 h2 _
    obtain ⟨rfl, rfl⟩ := h2
    refine rw_aast 43 dX9_init_43 ly_18 (show 18 < 19 + 4 * i + 4 by omega) (o5l hok) (show 19 + 4 * i < 19 + 4 * i + 4 by omega) hin ?_
    refine rw_iinc 44 [(0, .ref 17), (1, .int (nI (i + 1)))] dX9_init_44 1 rfl (nI_1 i) (by decide) rfl ?_
    refine rw_goto 47 25 dX9_init_47 (by decide) ?_
    have := ih (i + 1) q (by omega) h
    rw [show 19 + 4 * (i + 1) = 19 + 4 * i + 4 by omega] at this
    show RW mX9_init 4 18 179 25 [(0, .ref 17), (1, .int (nI (i + 1)))] [] (q, wR (RX5_init (19 + 4 * i) (zR (ringR R i) (19 + 4 * i))) 18 (nI i).toNatClampNeg (some (19 + 4 * i)), 19 + 4 * i + 4) _
    rw [hcl]
    exact this

def RX9_init_17 (R : Nat → Nat → Option Nat) : Nat → Nat → Option Nat := (ringR (wR (zR R 18) 17 1 (some 18)) 40)
def fX9_init_17 (μ : Mem) : Option Mem :=
  nm (wI μ 17 0 0) fun μ1 =>
  nm (zM μ1 18) fun μ2 =>
  nm (wI μ2 17 2 0) fun μ3 =>
  fX9_lp 40 0 μ3

set_option maxRecDepth 100000 in
theorem wX9_init_17 (R : Nat → Nat → Option Nat)  (μ : Mem) {res : Mem} (h : fX9_init_17  μ = some res) : Ct mX9_init 4 18 179 [.ref 17] (μ, R, 18) (QC res (RX9_init_17  R) 179) := by
  unfold fX9_init_17 at h
  show RW mX9_init 4 18 179 0 [(0, .ref 17)] [] (μ, R, 18) _
  refine rw_aload_n 0 dX9_init_0 0 rfl ?_
  refine rw_objInit 1 dX9_init_1 lX9_3 wlI_obj wlC_obj (by decide) (Nat.le_of_ble_eq_true rfl) ?_
  refine rw_aload_n 4 dX9_init_4 0 rfl ?_
  refine rw_iconst 5 (v := 0) dX9_init_5 (by decide) ?_
  refine rc_putI 6 9 0 kc9 dX9_init_6 ly_17 (by decide) fX9_9 (fun q hq => by cases hq; rfl) rfl rfl rfl rfl h (fun μ1 h => ?_)
  refine rw_aload_n 9 dX9_init_9 0 rfl ?_
  refine rw_bipush 10 (v := 40) dX9_init_10 (by decide) ?_
  refine rc_anew 12 (ln := 40) dX9_init_12 ly_18 (by decide) (by decide) (by decide) lX9_15 (by decide) h (fun μ2 h => ?_)
  refine rc_putR 15 9 1 kc9 dX9_init_15 ly_17 (by decide) fX9_17 (fun q hq => by cases hq; rfl) rfl rfl ?_
  refine rw_aload_n 18 dX9_init_18 0 rfl ?_
  refine rw_iconst 19 (v := 0) dX9_init_19 (by decide) ?_
  refine rc_putI 20 9 2 kc9 dX9_init_20 ly_17 (by decide) fX9_21 (fun q hq => by cases hq; rfl) rfl rfl rfl rfl h (fun μ3 h => ?_)
  refine rw_iconst 23 (v := 0) dX9_init_23 (by decide) ?_
  refine rw_istore_n 24 [(0, .ref 17), (1, .int 0)] dX9_init_24 (by decide) rfl ?_
  exact wX9_lp (wR (zR R 18) 17 1 (some 18)) (by simp [wR, zR]) 40 0 μ3 rfl h
theorem okc2_205 (R : Nat → Nat → Option Nat) : okX2 (wR (zR (wR (zR (wR (zR (wR (zR (wR (zR (wR (zR (wR (RX2_init_205 (zR (wR (zR (wR (zR (wR (zR (wR (zR (wR (zR R 200) 199 1 (some 200)) 201) 199 2 (some 201)) 202) 199 4 (some 202)) 203) 199 5 (some 203)) 204) 199 6 (some 204)) 205)) 199 10 (some 205)) 209) 199 11 (some 209)) 210) 199 12 (some 210)) 211) 199 13 (some 211)) 212) 199 14 (some 212)) 213) 199 15 (some 213)) 214) 199 16 (some 214)) 215 (199 + 6) := ⟨by decide, ly_205, by simp [wR, zR, RX2_init_205], ly_206, by simp [wR, zR, RX2_init_205], ly_207, by simp [wR, zR, RX2_init_205], ly_208⟩
theorem okc7_199 (R : Nat → Nat → Option Nat) : okX7 (wR (zR (wR (zR (wR (zR (wR (zR (wR (zR (wR (zR (wR (RX2_init_205 (zR (wR (zR (wR (zR (wR (zR (wR (zR (wR (zR R 200) 199 1 (some 200)) 201) 199 2 (some 201)) 202) 199 4 (some 202)) 203) 199 5 (some 203)) 204) 199 6 (some 204)) 205)) 199 10 (some 205)) 209) 199 11 (some 209)) 210) 199 12 (some 210)) 211) 199 13 (some 211)) 212) 199 14 (some 212)) 213) 199 15 (some 213)) 214) 199 16 (some 214)) 215 199 := ⟨by decide, ly_199, by simp [wR, zR, RX2_init_205], ly_200, by simp [wR, zR, RX2_init_205], ly_201, by simp [wR, zR, RX2_init_205], ly_202, by simp [wR, zR, RX2_init_205], ly_203, by simp [wR, zR, RX2_init_205], ly_204, by simp [wR, zR, RX2_init_205], okc2_205 R, by simp [wR, zR, RX2_init_205], ly_209, by simp [wR, zR, RX2_init_205], ly_210, by simp [wR, zR, RX2_init_205], ly_211, by simp [wR, zR, RX2_init_205], ly_212, by simp [wR, zR, RX2_init_205], ly_213, by simp [wR, zR, RX2_init_205], ly_214⟩
def RX7_init_199 (R : Nat → Nat → Option Nat) : Nat → Nat → Option Nat := (wR (zR (wR (zR (wR (zR (wR (zR (wR (zR (wR (zR (wR (RX2_init_205 (zR (wR (zR (wR (zR (wR (zR (wR (zR (wR (zR R 200) 199 1 (some 200)) 201) 199 2 (some 201)) 202) 199 4 (some 202)) 203) 199 5 (some 203)) 204) 199 6 (some 204)) 205)) 199 10 (some 205)) 209) 199 11 (some 209)) 210) 199 12 (some 210)) 211) 199 13 (some 211)) 212) 199 14 (some 212)) 213) 199 15 (some 213)) 214) 199 16 (some 214))
def fX7_init_199 (μ : Mem) : Option Mem :=
  nm (wI μ 199 0 0) fun μ1 =>
  nm (zM μ1 200) fun μ2 =>
  nm (zM μ2 201) fun μ3 =>
  nm (wI μ3 199 3 0) fun μ4 =>
  nm (zM μ4 202) fun μ5 =>
  nm (zM μ5 203) fun μ6 =>
  nm (zM μ6 204) fun μ7 =>
  nm (wI μ7 199 7 0) fun μ8 =>
  nm (wI μ8 199 8 100) fun μ9 =>
  nm (wI μ9 199 9 0) fun μ10 =>
  nm (zM μ10 205) fun μ11 =>
  (fX2_init_205 μ11).bind fun q12 =>
  nm (zM q12 209) fun μ13 =>
  nm (zM μ13 210) fun μ14 =>
  nm (zM μ14 211) fun μ15 =>
  nm (zM μ15 212) fun μ16 =>
  nm (zM μ16 213) fun μ17 =>
  nm (zM μ17 214) fun μ18 =>
  (fX7_begin 199 μ18).bind fun q19 =>
  (fX7_findClashes 199 q19).bind fun q20 =>
  some q20

set_option maxRecDepth 100000 in
theorem wX7_init_199 (R : Nat → Nat → Option Nat)  (μ : Mem) {res : Mem} (h : fX7_init_199  μ = some res) : Ct mX7_init 9 200 215 [.ref 199] (μ, R, 200) (QC res (RX7_init_199  R) 215) := by
  unfold fX7_init_199 at h
  show RW mX7_init 9 200 215 0 [(0, .ref 199)] [] (μ, R, 200) _
  refine rw_aload_n 0 dX7_init_0 0 rfl ?_
  refine rw_objInit 1 dX7_init_1 lX7_3 wlI_obj wlC_obj (by decide) (Nat.le_of_ble_eq_true rfl) ?_
  refine rw_aload_n 4 dX7_init_4 0 rfl ?_
  refine rw_iconst 5 (v := 0) dX7_init_5 (by decide) ?_
  refine rc_putI 6 7 0 kc7 dX7_init_6 ly_199 (by decide) fX7_9 (fun q hq => by cases hq; rfl) rfl rfl rfl rfl h (fun μ1 h => ?_)
  refine rw_aload_n 9 dX7_init_9 0 rfl ?_
  refine rw_iconst 10 (v := 4) dX7_init_10 (by decide) ?_
  refine rc_newa 11 (ty := 0) (ln := 4) .int rfl (by decide) dX7_init_11 ly_200 (by decide) (by decide) (by decide) wlA_int (by decide) h (fun μ2 h => ?_)
  refine rc_putR 13 7 1 kc7 dX7_init_13 ly_199 (by decide) fX7_15 (fun q hq => by cases hq; rfl) rfl rfl ?_
  refine rw_aload_n 16 dX7_init_16 0 rfl ?_
  refine rw_iconst 17 (v := 4) dX7_init_17 (by decide) ?_
  refine rc_newa 18 (ty := 0) (ln := 4) .int rfl (by decide) dX7_init_18 ly_201 (by decide) (by decide) (by decide) wlA_int (by decide) h (fun μ3 h => ?_)
  refine rc_putR 20 7 2 kc7 dX7_init_20 ly_199 (by decide) fX7_19 (fun q hq => by cases hq; rfl) rfl rfl ?_
  refine rw_aload_n 23 dX7_init_23 0 rfl ?_
  refine rw_iconst 24 (v := 0) dX7_init_24 (by decide) ?_
  refine rc_putI 25 7 3 kc7 dX7_init_25 ly_199 (by decide) fX7_22 (fun q hq => by cases hq; rfl) rfl rfl rfl rfl h (fun μ4 h => ?_)
  refine rw_aload_n 28 dX7_init_28 0 rfl ?_
  refine rw_bipush 29 (v := 7) dX7_init_29 (by decide) ?_
  refine rc_newa 31 (ty := 0) (ln := 7) .int rfl (by decide) dX7_init_31 ly_202 (by decide) (by decide) (by decide) wlA_int (by decide) h (fun μ5 h => ?_)
  refine rc_putR 33 7 4 kc7 dX7_init_33 ly_199 (by decide) fX7_25 (fun q hq => by cases hq; rfl) rfl rfl ?_
  refine rw_aload_n 36 dX7_init_36 0 rfl ?_
  refine rw_bipush 37 (v := 7) dX7_init_37 (by decide) ?_
  refine rc_newa 39 (ty := 0) (ln := 7) .int rfl (by decide) dX7_init_39 ly_203 (by decide) (by decide) (by decide) wlA_int (by decide) h (fun μ6 h => ?_)
  refine rc_putR 41 7 5 kc7 dX7_init_41 ly_199 (by decide) fX7_28 (fun q hq => by cases hq; rfl) rfl rfl ?_
  refine rw_aload_n 44 dX7_init_44 0 rfl ?_
  refine rw_bipush 45 (v := 7) dX7_init_45 (by decide) ?_
  refine rc_newa 47 (ty := 0) (ln := 7) .int rfl (by decide) dX7_init_47 ly_204 (by decide) (by decide) (by decide) wlA_int (by decide) h (fun μ7 h => ?_)
  refine rc_putR 49 7 6 kc7 dX7_init_49 ly_199 (by decide) fX7_31 (fun q hq => by cases hq; rfl) rfl rfl ?_
  refine rw_aload_n 52 dX7_init_52 0 rfl ?_
  refine rw_iconst 53 (v := 0) dX7_init_53 (by decide) ?_
  refine rc_putI 54 7 7 kc7 dX7_init_54 ly_199 (by decide) fX7_34 (fun q hq => by cases hq; rfl) rfl rfl rfl rfl h (fun μ8 h => ?_)
  refine rw_aload_n 57 dX7_init_57 0 rfl ?_
  refine rw_bipush 58 (v := 100) dX7_init_58 (by decide) ?_
  refine rc_putI 60 7 8 kc7 dX7_init_60 ly_199 (by decide) fX7_37 (fun q hq => by cases hq; rfl) rfl rfl rfl rfl h (fun μ9 h => ?_)
  refine rw_aload_n 63 dX7_init_63 0 rfl ?_
  refine rw_iconst 64 (v := 0) dX7_init_64 (by decide) ?_
  refine rc_putI 65 7 9 kc7 dX7_init_65 ly_199 (by decide) fX7_40 (fun q hq => by cases hq; rfl) rfl rfl rfl rfl h (fun μ10 h => ?_)
  refine rw_aload_n 68 dX7_init_68 0 rfl ?_
  refine rc_new 69 2 kc2 hpX2 dX7_init_69 ly_205 (fun q hq => by cases hq; exact lX7_43) (by decide) h (fun μ11 h => ?_)
  refine rw_dup 72 dX7_init_72 rfl ?_
  refine rc_callIN 73 (n2 := 209) RX10 dX7_init_73 caX2_init rfl rfl (by decide +kernel) inX2_init naX2_init (by decide) (Nat.le_of_ble_eq_true rfl) (by decide) (by decide) (by decide) (fun _ hq => wX2_init_205 (zR (wR (zR (wR (zR (wR (zR (wR (zR (wR (zR R 200) 199 1 (some 200)) 201) 199 2 (some 201)) 202) 199 4 (some 202)) 203) 199 5 (some 203)) 204) 199 6 (some 204)) 205) μ11 hq) h (fun q12 h => ?_)
  refine rc_putR 76 7 10 kc7 dX7_init_76 ly_199 (by decide) fX7_46 (fun q hq => by cases hq; rfl) rfl rfl ?_
  refine rw_aload_n 79 dX7_init_79 0 rfl ?_
  refine rw_bipush 80 (v := 7) dX7_init_80 (by decide) ?_
  refine rc_newa 82 (ty := 0) (ln := 7) .int rfl (by decide) dX7_init_82 ly_209 (by decide) (by decide) (by decide) wlA_int (by decide) h (fun μ13 h => ?_)
  refine rc_putR 84 7 11 kc7 dX7_init_84 ly_199 (by decide) fX7_50 (fun q hq => by cases hq; rfl) rfl rfl ?_
  refine rw_aload_n 87 dX7_init_87 0 rfl ?_
  refine rw_bipush 88 (v := 7) dX7_init_88 (by decide) ?_
  refine rc_newa 90 (ty := 1) (ln := 7) .long rfl (by decide) dX7_init_90 ly_210 (by decide) (by decide) (by decide) wlA_long (by decide) h (fun μ14 h => ?_)
  refine rc_putR 92 7 12 kc7 dX7_init_92 ly_199 (by decide) fX7_53 (fun q hq => by cases hq; rfl) rfl rfl ?_
  refine rw_aload_n 95 dX7_init_95 0 rfl ?_
  refine rw_sipush 96 (v := 128) dX7_init_96 (by decide) ?_
  refine rc_newa 99 (ty := 3) (ln := 128) .boolean rfl (by decide) dX7_init_99 ly_211 (by decide) (by decide) (by decide) wlA_boolean (by decide) h (fun μ15 h => ?_)
  refine rc_putR 101 7 13 kc7 dX7_init_101 ly_199 (by decide) fX7_57 (fun q hq => by cases hq; rfl) rfl rfl ?_
  refine rw_aload_n 104 dX7_init_104 0 rfl ?_
  refine rw_bipush 105 (v := 7) dX7_init_105 (by decide) ?_
  refine rc_newa 107 (ty := 0) (ln := 7) .int rfl (by decide) dX7_init_107 ly_212 (by decide) (by decide) (by decide) wlA_int (by decide) h (fun μ16 h => ?_)
  refine rc_putR 109 7 14 kc7 dX7_init_109 ly_199 (by decide) fX7_61 (fun q hq => by cases hq; rfl) rfl rfl ?_
  refine rw_aload_n 112 dX7_init_112 0 rfl ?_
  refine rw_iconst 113 (v := 4) dX7_init_113 (by decide) ?_
  refine rc_newa 114 (ty := 1) (ln := 4) .long rfl (by decide) dX7_init_114 ly_213 (by decide) (by decide) (by decide) wlA_long (by decide) h (fun μ17 h => ?_)
  refine rc_putR 116 7 15 kc7 dX7_init_116 ly_199 (by decide) fX7_64 (fun q hq => by cases hq; rfl) rfl rfl ?_
  refine rw_aload_n 119 dX7_init_119 0 rfl ?_
  refine rw_bipush 120 (v := 7) dX7_init_120 (by decide) ?_
  refine rc_newa 122 (ty := 1) (ln := 7) .long rfl (by decide) dX7_init_122 ly_214 (by decide) (by decide) (by decide) wlA_long (by decide) h (fun μ18 h => ?_)
  refine rc_putR 124 7 16 kc7 dX7_init_124 ly_199 (by decide) fX7_67 (fun q hq => by cases hq; rfl) rfl rfl ?_
  refine rw_aload_n 127 dX7_init_127 0 rfl ?_
  refine rc_callVv 128 7 [] dX7_init_128 caX7_begin lX7_70 inX7_begin slX7_begin rfl ly_199 ⟨_, rfl, rfl⟩ (by decide) naX7_begin (Nat.le_of_ble_eq_true rfl) (Nat.le_of_ble_eq_true rfl) (by decide) (by decide) (fun _ hq => wX7_begin 199 (okc7_199 R) μ18 hq) h (fun q19 h => ?_)
  refine rw_aload_n 131 dX7_init_131 0 rfl ?_
  refine rc_callVv 132 7 [] dX7_init_132 caX7_findClashes lX7_73 inX7_findClashes slX7_findClashes rfl ly_199 ⟨_, rfl, rfl⟩ (by decide) naX7_findClashes (Nat.le_of_ble_eq_true rfl) (Nat.le_of_ble_eq_true rfl) (by decide) (by decide) (fun _ hq => wX7_findClashes 199 (okc7_199 R) q19 hq) h (fun q20 h => ?_)
  exact rc_vret 135 dX7_init_135 rfl h
theorem okc2_221 (R : Nat → Nat → Option Nat) : okX2 (wR (zR (wR (zR (wR (zR (wR (zR (wR (zR (wR (zR (wR (RX2_init_221 (zR (wR (zR (wR (zR (wR (zR (wR (zR (wR (zR R 216) 215 1 (some 216)) 217) 215 2 (some 217)) 218) 215 4 (some 218)) 219) 215 5 (some 219)) 220) 215 6 (some 220)) 221)) 215 10 (some 221)) 225) 215 11 (some 225)) 226) 215 12 (some 226)) 227) 215 13 (some 227)) 228) 215 14 (some 228)) 229) 215 15 (some 229)) 230) 215 16 (some 230)) 231 (215 + 6) := ⟨by decide, ly_221, by simp [wR, zR, RX2_init_221], ly_222, by simp [wR, zR, RX2_init_221], ly_223, by simp [wR, zR, RX2_init_221], ly_224⟩
theorem okc7_215 (R : Nat → Nat → Option Nat) : okX7 (wR (zR (wR (zR (wR (zR (wR (zR (wR (zR (wR (zR (wR (RX2_init_221 (zR (wR (zR (wR (zR (wR (zR (wR (zR (wR (zR R 216) 215 1 (some 216)) 217) 215 2 (some 217)) 218) 215 4 (some 218)) 219) 215 5 (some 219)) 220) 215 6 (some 220)) 221)) 215 10 (some 221)) 225) 215 11 (some 225)) 226) 215 12 (some 226)) 227) 215 13 (some 227)) 228) 215 14 (some 228)) 229) 215 15 (some 229)) 230) 215 16 (some 230)) 231 215 := ⟨by decide, ly_215, by simp [wR, zR, RX2_init_221], ly_216, by simp [wR, zR, RX2_init_221], ly_217, by simp [wR, zR, RX2_init_221], ly_218, by simp [wR, zR, RX2_init_221], ly_219, by simp [wR, zR, RX2_init_221], ly_220, by simp [wR, zR, RX2_init_221], okc2_221 R, by simp [wR, zR, RX2_init_221], ly_225, by simp [wR, zR, RX2_init_221], ly_226, by simp [wR, zR, RX2_init_221], ly_227, by simp [wR, zR, RX2_init_221], ly_228, by simp [wR, zR, RX2_init_221], ly_229, by simp [wR, zR, RX2_init_221], ly_230⟩
def RX7_init_215 (R : Nat → Nat → Option Nat) : Nat → Nat → Option Nat := (wR (zR (wR (zR (wR (zR (wR (zR (wR (zR (wR (zR (wR (RX2_init_221 (zR (wR (zR (wR (zR (wR (zR (wR (zR (wR (zR R 216) 215 1 (some 216)) 217) 215 2 (some 217)) 218) 215 4 (some 218)) 219) 215 5 (some 219)) 220) 215 6 (some 220)) 221)) 215 10 (some 221)) 225) 215 11 (some 225)) 226) 215 12 (some 226)) 227) 215 13 (some 227)) 228) 215 14 (some 228)) 229) 215 15 (some 229)) 230) 215 16 (some 230))
def fX7_init_215 (μ : Mem) : Option Mem :=
  nm (wI μ 215 0 0) fun μ1 =>
  nm (zM μ1 216) fun μ2 =>
  nm (zM μ2 217) fun μ3 =>
  nm (wI μ3 215 3 0) fun μ4 =>
  nm (zM μ4 218) fun μ5 =>
  nm (zM μ5 219) fun μ6 =>
  nm (zM μ6 220) fun μ7 =>
  nm (wI μ7 215 7 0) fun μ8 =>
  nm (wI μ8 215 8 100) fun μ9 =>
  nm (wI μ9 215 9 0) fun μ10 =>
  nm (zM μ10 221) fun μ11 =>
  (fX2_init_221 μ11).bind fun q12 =>
  nm (zM q12 225) fun μ13 =>
  nm (zM μ13 226) fun μ14 =>
  nm (zM μ14 227) fun μ15 =>
  nm (zM μ15 228) fun μ16 =>
  nm (zM μ16 229) fun μ17 =>
  nm (zM μ17 230) fun μ18 =>
  (fX7_begin 215 μ18).bind fun q19 =>
  (fX7_findClashes 215 q19).bind fun q20 =>
  some q20

set_option maxRecDepth 100000 in
theorem wX7_init_215 (R : Nat → Nat → Option Nat)  (μ : Mem) {res : Mem} (h : fX7_init_215  μ = some res) : Ct mX7_init 9 216 231 [.ref 215] (μ, R, 216) (QC res (RX7_init_215  R) 231) := by
  unfold fX7_init_215 at h
  show RW mX7_init 9 216 231 0 [(0, .ref 215)] [] (μ, R, 216) _
  refine rw_aload_n 0 dX7_init_0 0 rfl ?_
  refine rw_objInit 1 dX7_init_1 lX7_3 wlI_obj wlC_obj (by decide) (Nat.le_of_ble_eq_true rfl) ?_
  refine rw_aload_n 4 dX7_init_4 0 rfl ?_
  refine rw_iconst 5 (v := 0) dX7_init_5 (by decide) ?_
  refine rc_putI 6 7 0 kc7 dX7_init_6 ly_215 (by decide) fX7_9 (fun q hq => by cases hq; rfl) rfl rfl rfl rfl h (fun μ1 h => ?_)
  refine rw_aload_n 9 dX7_init_9 0 rfl ?_
  refine rw_iconst 10 (v := 4) dX7_init_10 (by decide) ?_
  refine rc_newa 11 (ty := 0) (ln := 4) .int rfl (by decide) dX7_init_11 ly_216 (by decide) (by decide) (by decide) wlA_int (by decide) h (fun μ2 h => ?_)
  refine rc_putR 13 7 1 kc7 dX7_init_13 ly_215 (by decide) fX7_15 (fun q hq => by cases hq; rfl) rfl rfl ?_
  refine rw_aload_n 16 dX7_init_16 0 rfl ?_
  refine rw_iconst 17 (v := 4) dX7_init_17 (by decide) ?_
  refine rc_newa 18 (ty := 0) (ln := 4) .int rfl (by decide) dX7_init_18 ly_217 (by decide) (by decide) (by decide) wlA_int (by decide) h (fun μ3 h => ?_)
  refine rc_putR 20 7 2 kc7 dX7_init_20 ly_215 (by decide) fX7_19 (fun q hq => by cases hq; rfl) rfl rfl ?_
  refine rw_aload_n 23 dX7_init_23 0 rfl ?_
  refine rw_iconst 24 (v := 0) dX7_init_24 (by decide) ?_
  refine rc_putI 25 7 3 kc7 dX7_init_25 ly_215 (by decide) fX7_22 (fun q hq => by cases hq; rfl) rfl rfl rfl rfl h (fun μ4 h => ?_)
  refine rw_aload_n 28 dX7_init_28 0 rfl ?_
  refine rw_bipush 29 (v := 7) dX7_init_29 (by decide) ?_
  refine rc_newa 31 (ty := 0) (ln := 7) .int rfl (by decide) dX7_init_31 ly_218 (by decide) (by decide) (by decide) wlA_int (by decide) h (fun μ5 h => ?_)
  refine rc_putR 33 7 4 kc7 dX7_init_33 ly_215 (by decide) fX7_25 (fun q hq => by cases hq; rfl) rfl rfl ?_
  refine rw_aload_n 36 dX7_init_36 0 rfl ?_
  refine rw_bipush 37 (v := 7) dX7_init_37 (by decide) ?_
  refine rc_newa 39 (ty := 0) (ln := 7) .int rfl (by decide) dX7_init_39 ly_219 (by decide) (by decide) (by decide) wlA_int (by decide) h (fun μ6 h => ?_)
  refine rc_putR 41 7 5 kc7 dX7_init_41 ly_215 (by decide) fX7_28 (fun q hq => by cases hq; rfl) rfl rfl ?_
  refine rw_aload_n 44 dX7_init_44 0 rfl ?_
  refine rw_bipush 45 (v := 7) dX7_init_45 (by decide) ?_
  refine rc_newa 47 (ty := 0) (ln := 7) .int rfl (by decide) dX7_init_47 ly_220 (by decide) (by decide) (by decide) wlA_int (by decide) h (fun μ7 h => ?_)
  refine rc_putR 49 7 6 kc7 dX7_init_49 ly_215 (by decide) fX7_31 (fun q hq => by cases hq; rfl) rfl rfl ?_
  refine rw_aload_n 52 dX7_init_52 0 rfl ?_
  refine rw_iconst 53 (v := 0) dX7_init_53 (by decide) ?_
  refine rc_putI 54 7 7 kc7 dX7_init_54 ly_215 (by decide) fX7_34 (fun q hq => by cases hq; rfl) rfl rfl rfl rfl h (fun μ8 h => ?_)
  refine rw_aload_n 57 dX7_init_57 0 rfl ?_
  refine rw_bipush 58 (v := 100) dX7_init_58 (by decide) ?_
  refine rc_putI 60 7 8 kc7 dX7_init_60 ly_215 (by decide) fX7_37 (fun q hq => by cases hq; rfl) rfl rfl rfl rfl h (fun μ9 h => ?_)
  refine rw_aload_n 63 dX7_init_63 0 rfl ?_
  refine rw_iconst 64 (v := 0) dX7_init_64 (by decide) ?_
  refine rc_putI 65 7 9 kc7 dX7_init_65 ly_215 (by decide) fX7_40 (fun q hq => by cases hq; rfl) rfl rfl rfl rfl h (fun μ10 h => ?_)
  refine rw_aload_n 68 dX7_init_68 0 rfl ?_
  refine rc_new 69 2 kc2 hpX2 dX7_init_69 ly_221 (fun q hq => by cases hq; exact lX7_43) (by decide) h (fun μ11 h => ?_)
  refine rw_dup 72 dX7_init_72 rfl ?_
  refine rc_callIN 73 (n2 := 225) RX10 dX7_init_73 caX2_init rfl rfl (by decide +kernel) inX2_init naX2_init (by decide) (Nat.le_of_ble_eq_true rfl) (by decide) (by decide) (by decide) (fun _ hq => wX2_init_221 (zR (wR (zR (wR (zR (wR (zR (wR (zR (wR (zR R 216) 215 1 (some 216)) 217) 215 2 (some 217)) 218) 215 4 (some 218)) 219) 215 5 (some 219)) 220) 215 6 (some 220)) 221) μ11 hq) h (fun q12 h => ?_)
  refine rc_putR 76 7 10 kc7 dX7_init_76 ly_215 (by decide) fX7_46 (fun q hq => by cases hq; rfl) rfl rfl ?_
  refine rw_aload_n 79 dX7_init_79 0 rfl ?_
  refine rw_bipush 80 (v := 7) dX7_init_80 (by decide) ?_
  refine rc_newa 82 (ty := 0) (ln := 7) .int rfl (by decide) dX7_init_82 ly_225 (by decide) (by decide) (by decide) wlA_int (by decide) h (fun μ13 h => ?_)
  refine rc_putR 84 7 11 kc7 dX7_init_84 ly_215 (by decide) fX7_50 (fun q hq => by cases hq; rfl) rfl rfl ?_
  refine rw_aload_n 87 dX7_init_87 0 rfl ?_
  refine rw_bipush 88 (v := 7) dX7_init_88 (by decide) ?_
  refine rc_newa 90 (ty := 1) (ln := 7) .long rfl (by decide) dX7_init_90 ly_226 (by decide) (by decide) (by decide) wlA_long (by decide) h (fun μ14 h => ?_)
  refine rc_putR 92 7 12 kc7 dX7_init_92 ly_215 (by decide) fX7_53 (fun q hq => by cases hq; rfl) rfl rfl ?_
  refine rw_aload_n 95 dX7_init_95 0 rfl ?_
  refine rw_sipush 96 (v := 128) dX7_init_96 (by decide) ?_
  refine rc_newa 99 (ty := 3) (ln := 128) .boolean rfl (by decide) dX7_init_99 ly_227 (by decide) (by decide) (by decide) wlA_boolean (by decide) h (fun μ15 h => ?_)
  refine rc_putR 101 7 13 kc7 dX7_init_101 ly_215 (by decide) fX7_57 (fun q hq => by cases hq; rfl) rfl rfl ?_
  refine rw_aload_n 104 dX7_init_104 0 rfl ?_
  refine rw_bipush 105 (v := 7) dX7_init_105 (by decide) ?_
  refine rc_newa 107 (ty := 0) (ln := 7) .int rfl (by decide) dX7_init_107 ly_228 (by decide) (by decide) (by decide) wlA_int (by decide) h (fun μ16 h => ?_)
  refine rc_putR 109 7 14 kc7 dX7_init_109 ly_215 (by decide) fX7_61 (fun q hq => by cases hq; rfl) rfl rfl ?_
  refine rw_aload_n 112 dX7_init_112 0 rfl ?_
  refine rw_iconst 113 (v := 4) dX7_init_113 (by decide) ?_
  refine rc_newa 114 (ty := 1) (ln := 4) .long rfl (by decide) dX7_init_114 ly_229 (by decide) (by decide) (by decide) wlA_long (by decide) h (fun μ17 h => ?_)
  refine rc_putR 116 7 15 kc7 dX7_init_116 ly_215 (by decide) fX7_64 (fun q hq => by cases hq; rfl) rfl rfl ?_
  refine rw_aload_n 119 dX7_init_119 0 rfl ?_
  refine rw_bipush 120 (v := 7) dX7_init_120 (by decide) ?_
  refine rc_newa 122 (ty := 1) (ln := 7) .long rfl (by decide) dX7_init_122 ly_230 (by decide) (by decide) (by decide) wlA_long (by decide) h (fun μ18 h => ?_)
  refine rc_putR 124 7 16 kc7 dX7_init_124 ly_215 (by decide) fX7_67 (fun q hq => by cases hq; rfl) rfl rfl ?_
  refine rw_aload_n 127 dX7_init_127 0 rfl ?_
  refine rc_callVv 128 7 [] dX7_init_128 caX7_begin lX7_70 inX7_begin slX7_begin rfl ly_215 ⟨_, rfl, rfl⟩ (by decide) naX7_begin (Nat.le_of_ble_eq_true rfl) (Nat.le_of_ble_eq_true rfl) (by decide) (by decide) (fun _ hq => wX7_begin 215 (okc7_215 R) μ18 hq) h (fun q19 h => ?_)
  refine rw_aload_n 131 dX7_init_131 0 rfl ?_
  refine rc_callVv 132 7 [] dX7_init_132 caX7_findClashes lX7_73 inX7_findClashes slX7_findClashes rfl ly_215 ⟨_, rfl, rfl⟩ (by decide) naX7_findClashes (Nat.le_of_ble_eq_true rfl) (Nat.le_of_ble_eq_true rfl) (by decide) (by decide) (fun _ hq => wX7_findClashes 215 (okc7_215 R) q19 hq) h (fun q20 h => ?_)
  exact rc_vret 135 dX7_init_135 rfl h
def slotR (R : Nat → Nat → Option Nat) : Nat → Nat → Nat → Option Nat
  | 0 => R
  | i + 1 => wR (RX5_init (231 + 4 * i) (zR (slotR R i) (231 + 4 * i))) 179 i (some (231 + 4 * i))
theorem slotR_lo (R : Nat → Nat → Option Nat) {a : Nat} (j : Nat) (ha : a < 179) : ∀ i, slotR R i a j = R a j
  | 0 => rfl
  | i + 1 => by
    show wR (RX5_init (231 + 4 * i) (zR (slotR R i) (231 + 4 * i))) 179 i (some (231 + 4 * i)) a j = _
    rw [← slotR_lo R j ha i]
    have h1 : a ≠ 179 := by omega
    have h2 : a ≠ 231 + 4 * i := by omega
    have h3 : a ≠ 231 + 4 * i + 1 := by omega
    have h4 : a ≠ 231 + 4 * i + 2 := by omega
    have h5 : a ≠ 231 + 4 * i + 3 := by omega
    simp [wR, zR, RX5_init, h1, h2, h3, h4, h5]
def fX10_lp : Nat → Nat → Mem → Option Mem
  | 0, _, μ => some μ
  | k + 1, i, μ => (fX5_init (231 + 4 * i) (zM μ (231 + 4 * i))).bind fun μ1 => fX10_lp k (i + 1) μ1
set_option maxRecDepth 100000 in
theorem wX10_lp (R : Nat → Nat → Option Nat) (hr : R 0 5 = some 179) {res : Mem} : ∀ (k i : Nat) (μ : Mem), i + k = 3 → fX10_lp k i μ = some res → RW mX10_init 12 1 243 129 [(0, .ref 0), (1, .int (nI i))] [] (μ, slotR R i, 231 + 4 * i) (QC res (slotR R 3) 243) := by
  intro k
  induction k with
  | zero =>
    intro i μ hik h
    have hi : i = 3 := by omega
    subst hi
    refine rw_iload_n 129 dX10_init_129 1 rfl ?_
    refine rw_iconst 130 (v := 3) dX10_init_130 (by decide) ?_
    refine rw_icmp_ge 131 153 dX10_init_131 (by decide) (fun _ => ?_) (fun c => absurd (by decide) c)
    exact rc_vret 153 dX10_init_153 rfl h
  | succ k ih =>
    intro i μ hik h
    have hi : i < 3 := by omega
    have hin : inb (nI i) 3 := nI_in hi (by decide)
    have hcl : (nI i).toNatClampNeg = i := nI_clamp (by omega)
    obtain ⟨q, hq, h⟩ := bind_g h
    refine rw_iload_n 129 dX10_init_129 1 rfl ?_
    refine rw_iconst 130 (v := 3) dX10_init_130 (by decide) ?_
    refine rw_icmp_ge 131 153 dX10_init_131 (by decide) (fun c => absurd (show nI 3 ≤ nI i from c) (nI_ge hi (by decide))) (fun _ => ?_)
    refine rw_aload_n 134 dX10_init_134 0 rfl ?_
    refine rw_getR 135 10 5 kc10 dX10_init_135 ly_0 (show 0 < 231 + 4 * i by omega) fX10_40 rfl (b := 179) (by show slotR R i 0 5 = _; rw [slotR_lo R _ (by decide)]; exact hr) ?_
    refine rw_iload_n 138 dX10_init_138 1 rfl ?_
    have hok := okr_179 i hi
    have hlt : 231 + 4 * i + 3 < 243 := by omega
    refine rw_new 139 5 kc5 hpX5 dX10_init_139 (o5l hok) (fun q hq => by cases hq; exact lX10_23) (show 231 + 4 * i < 243 by omega) ?_
    refine rw_dup 142 dX10_init_142 rfl ?_
    refine rw_callIN 143 [] (n2 := 231 + 4 * i + 4) (d' := 2) (Q2 := QC q (RX5_init (231 + 4 * i) (zR (slotR R i) (231 + 4 * i))) (231 + 4 * i + 4)) dX10_init_143 caX5_init rfl rfl RX10 (by decide +kernel) inX5_init rfl naX5_init (Nat.le_of_ble_eq_true rfl) (Nat.le_of_ble_eq_true rfl) (by decide) (show 231 + 4 * i + 1 ≤ 231 + 4 * i + 4 by omega) (show 231 + 4 * i + 4 ≤ 243 by omega) (wX5_init (231 + 4 * i) _ (o5l hok) (o5l4 hok) (o5l5 hok) (o5l6 hok) _ hq) ?_
    intro r σ2 h2 _
    obtain ⟨rfl, rfl⟩ := h2
    refine rw_aast 146 dX10_init_146 ly_179 (show 179 < 231 + 4 * i + 4 by omega) (o5l hok) (show 231 + 4 * i < 231 + 4 * i + 4 by omega) hin ?_
    refine rw_iinc 147 [(0, .ref 0), (1, .int (nI (i + 1)))] dX10_init_147 1 rfl (nI_1 i) (by decide) rfl ?_
    refine rw_goto 150 129 dX10_init_150 (by decide) ?_
    have := ih (i + 1) q (by omega) h
    rw [show 231 + 4 * (i + 1) = 231 + 4 * i + 4 by omega] at this
    show RW mX10_init 12 1 243 129 [(0, .ref 0), (1, .int (nI (i + 1)))] [] (q, wR (RX5_init (231 + 4 * i) (zR (slotR R i) (231 + 4 * i))) 179 (nI i).toNatClampNeg (some (231 + 4 * i)), 231 + 4 * i + 4) _
    rw [hcl]
    exact this

def RX10_init_0 (R : Nat → Nat → Option Nat) : Nat → Nat → Option Nat := (slotR (wR (RX7_init_215 (zR (wR (RX7_init_199 (zR (wR (RX0_init_196 (zR (wR (RX3_init_183 (zR (wR (RX1_init_180 (zR (wR (zR (wR (RX9_init_17 (zR (wR (RX5_init 13 (zR (wR (RX5_init 9 (zR (wR (RX4_init_3 (zR (wR (RX6_init_1 (zR R 1)) 0 0 (some 1)) 3)) 0 1 (some 3)) 9)) 0 2 (some 9)) 13)) 0 3 (some 13)) 17)) 0 4 (some 17)) 179) 0 5 (some 179)) 180)) 0 6 (some 180)) 183)) 0 7 (some 183)) 196)) 0 8 (some 196)) 199)) 0 9 (some 199)) 215)) 0 10 (some 215)) 3)
def fX10_init_0 (μ : Mem) : Option Mem :=
  nm (zM μ 1) fun μ1 =>
  (fX6_init_1 μ1).bind fun q2 =>
  nm (zM q2 3) fun μ3 =>
  (fX4_init_3 μ3).bind fun q4 =>
  nm (zM q4 9) fun μ5 =>
  (fX5_init 9 μ5).bind fun q6 =>
  nm (zM q6 13) fun μ7 =>
  (fX5_init 13 μ7).bind fun q8 =>
  nm (zM q8 17) fun μ9 =>
  (fX9_init_17 μ9).bind fun q10 =>
  nm (zM q10 179) fun μ11 =>
  nm (zM μ11 180) fun μ12 =>
  (fX1_init_180 μ12).bind fun q13 =>
  nm (zM q13 183) fun μ14 =>
  (fX3_init_183 μ14).bind fun q15 =>
  nm (zM q15 196) fun μ16 =>
  (fX0_init_196 μ16).bind fun q17 =>
  nm (zM q17 199) fun μ18 =>
  (fX7_init_199 μ18).bind fun q19 =>
  nm (zM q19 215) fun μ20 =>
  (fX7_init_215 μ20).bind fun q21 =>
  nm (wI q21 0 11 0) fun μ22 =>
  fX10_lp 3 0 μ22

set_option maxRecDepth 100000 in
theorem wX10_init_0 (R : Nat → Nat → Option Nat)  (μ : Mem) {res : Mem} (h : fX10_init_0  μ = some res) : Ct mX10_init 12 1 243 [.ref 0] (μ, R, 1) (QC res (RX10_init_0  R) 243) := by
  unfold fX10_init_0 at h
  show RW mX10_init 12 1 243 0 [(0, .ref 0)] [] (μ, R, 1) _
  refine rw_aload_n 0 dX10_init_0 0 rfl ?_
  refine rw_objInit 1 dX10_init_1 lX10_3 wlI_obj wlC_obj (by decide) (Nat.le_of_ble_eq_true rfl) ?_
  refine rw_aload_n 4 dX10_init_4 0 rfl ?_
  refine rc_new 5 6 kc6 hpX6 dX10_init_5 ly_1 (fun q hq => by cases hq; exact lX10_9) (by decide) h (fun μ1 h => ?_)
  refine rw_dup 8 dX10_init_8 rfl ?_
  refine rc_callIN 9 (n2 := 3) RX10 dX10_init_9 caX6_init rfl rfl (by decide +kernel) inX6_init naX6_init (by decide) (Nat.le_of_ble_eq_true rfl) (by decide) (by decide) (by decide) (fun _ hq => wX6_init_1 (zR R 1) μ1 hq) h (fun q2 h => ?_)
  refine rc_putR 12 10 0 kc10 dX10_init_12 ly_0 (by decide) fX10_12 (fun q hq => by cases hq; rfl) rfl rfl ?_
  refine rw_aload_n 15 dX10_init_15 0 rfl ?_
  refine rc_new 16 4 kc4 hpX4 dX10_init_16 ly_3 (fun q hq => by cases hq; exact lX10_16) (by decide) h (fun μ3 h => ?_)
  refine rw_dup 19 dX10_init_19 rfl ?_
  refine rc_callIN 20 (n2 := 9) RX10 dX10_init_20 caX4_init rfl rfl (by decide +kernel) inX4_init naX4_init (by decide) (Nat.le_of_ble_eq_true rfl) (by decide) (by decide) (by decide) (fun _ hq => wX4_init_3 (zR (wR (RX6_init_1 (zR R 1)) 0 0 (some 1)) 3) μ3 hq) h (fun q4 h => ?_)
  refine rc_putR 23 10 1 kc10 dX10_init_23 ly_0 (by decide) fX10_19 (fun q hq => by cases hq; rfl) rfl rfl ?_
  refine rw_aload_n 26 dX10_init_26 0 rfl ?_
  refine rc_new 27 5 kc5 hpX5 dX10_init_27 ly_9 (fun q hq => by cases hq; exact lX10_23) (by decide) h (fun μ5 h => ?_)
  refine rw_dup 30 dX10_init_30 rfl ?_
  refine rc_callIN 31 (n2 := 13) RX10 dX10_init_31 caX5_init rfl rfl (by decide +kernel) inX5_init naX5_init (by decide) (Nat.le_of_ble_eq_true rfl) (by decide) (by decide) (by decide) (fun _ hq => wX5_init 9 (zR (wR (RX4_init_3 (zR (wR (RX6_init_1 (zR R 1)) 0 0 (some 1)) 3)) 0 1 (some 3)) 9) ly_9 ly_10 ly_11 ly_12 μ5 hq) h (fun q6 h => ?_)
  refine rc_putR 34 10 2 kc10 dX10_init_34 ly_0 (by decide) fX10_26 (fun q hq => by cases hq; rfl) rfl rfl ?_
  refine rw_aload_n 37 dX10_init_37 0 rfl ?_
  refine rc_new 38 5 kc5 hpX5 dX10_init_38 ly_13 (fun q hq => by cases hq; exact lX10_23) (by decide) h (fun μ7 h => ?_)
  refine rw_dup 41 dX10_init_41 rfl ?_
  refine rc_callIN 42 (n2 := 17) RX10 dX10_init_42 caX5_init rfl rfl (by decide +kernel) inX5_init naX5_init (by decide) (Nat.le_of_ble_eq_true rfl) (by decide) (by decide) (by decide) (fun _ hq => wX5_init 13 (zR (wR (RX5_init 9 (zR (wR (RX4_init_3 (zR (wR (RX6_init_1 (zR R 1)) 0 0 (some 1)) 3)) 0 1 (some 3)) 9)) 0 2 (some 9)) 13) ly_13 ly_14 ly_15 ly_16 μ7 hq) h (fun q8 h => ?_)
  refine rc_putR 45 10 3 kc10 dX10_init_45 ly_0 (by decide) fX10_30 (fun q hq => by cases hq; rfl) rfl rfl ?_
  refine rw_aload_n 48 dX10_init_48 0 rfl ?_
  refine rc_new 49 9 kc9 hpX9 dX10_init_49 ly_17 (fun q hq => by cases hq; exact lX10_33) (by decide) h (fun μ9 h => ?_)
  refine rw_dup 52 dX10_init_52 rfl ?_
  refine rc_callI 53 (n2 := 179) dX10_init_53 caX9_init rfl rfl lX10_35 inX9_init naX9_init (by decide) (Nat.le_of_ble_eq_true rfl) (by decide) (by decide) (by decide) (fun _ hq => wX9_init_17 (zR (wR (RX5_init 13 (zR (wR (RX5_init 9 (zR (wR (RX4_init_3 (zR (wR (RX6_init_1 (zR R 1)) 0 0 (some 1)) 3)) 0 1 (some 3)) 9)) 0 2 (some 9)) 13)) 0 3 (some 13)) 17) μ9 hq) h (fun q10 h => ?_)
  refine rc_putR 56 10 4 kc10 dX10_init_56 ly_0 (by decide) fX10_36 (fun q hq => by cases hq; rfl) rfl rfl ?_
  refine rw_aload_n 59 dX10_init_59 0 rfl ?_
  refine rw_iconst 60 (v := 3) dX10_init_60 (by decide) ?_
  refine rc_anew 61 (ln := 3) dX10_init_61 ly_179 (by decide) (by decide) (by decide) lX10_23 (by decide) h (fun μ11 h => ?_)
  refine rc_putR 64 10 5 kc10 dX10_init_64 ly_0 (by decide) fX10_40 (fun q hq => by cases hq; rfl) rfl rfl ?_
  refine rw_aload_n 67 dX10_init_67 0 rfl ?_
  refine rc_new 68 1 kc1 hpX1 dX10_init_68 ly_180 (fun q hq => by cases hq; exact lX10_44) (by decide) h (fun μ12 h => ?_)
  refine rw_dup 71 dX10_init_71 rfl ?_
  refine rc_callIN 72 (n2 := 183) RX10 dX10_init_72 caX1_init rfl rfl (by decide +kernel) inX1_init naX1_init (by decide) (Nat.le_of_ble_eq_true rfl) (by decide) (by decide) (by decide) (fun _ hq => wX1_init_180 (zR (wR (zR (wR (RX9_init_17 (zR (wR (RX5_init 13 (zR (wR (RX5_init 9 (zR (wR (RX4_init_3 (zR (wR (RX6_init_1 (zR R 1)) 0 0 (some 1)) 3)) 0 1 (some 3)) 9)) 0 2 (some 9)) 13)) 0 3 (some 13)) 17)) 0 4 (some 17)) 179) 0 5 (some 179)) 180) μ12 hq) h (fun q13 h => ?_)
  refine rc_putR 75 10 6 kc10 dX10_init_75 ly_0 (by decide) fX10_47 (fun q hq => by cases hq; rfl) rfl rfl ?_
  refine rw_aload_n 78 dX10_init_78 0 rfl ?_
  refine rc_new 79 3 kc3 hpX3 dX10_init_79 ly_183 (fun q hq => by cases hq; exact lX10_51) (by decide) h (fun μ14 h => ?_)
  refine rw_dup 82 dX10_init_82 rfl ?_
  refine rc_callIN 83 (n2 := 196) RX10 dX10_init_83 caX3_init rfl rfl (by decide +kernel) inX3_init naX3_init (by decide) (Nat.le_of_ble_eq_true rfl) (by decide) (by decide) (by decide) (fun _ hq => wX3_init_183 (zR (wR (RX1_init_180 (zR (wR (zR (wR (RX9_init_17 (zR (wR (RX5_init 13 (zR (wR (RX5_init 9 (zR (wR (RX4_init_3 (zR (wR (RX6_init_1 (zR R 1)) 0 0 (some 1)) 3)) 0 1 (some 3)) 9)) 0 2 (some 9)) 13)) 0 3 (some 13)) 17)) 0 4 (some 17)) 179) 0 5 (some 179)) 180)) 0 6 (some 180)) 183) μ14 hq) h (fun q15 h => ?_)
  refine rc_putR 86 10 7 kc10 dX10_init_86 ly_0 (by decide) fX10_54 (fun q hq => by cases hq; rfl) rfl rfl ?_
  refine rw_aload_n 89 dX10_init_89 0 rfl ?_
  refine rc_new 90 0 kc0 hpX0 dX10_init_90 ly_196 (fun q hq => by cases hq; exact lX10_58) (by decide) h (fun μ16 h => ?_)
  refine rw_dup 93 dX10_init_93 rfl ?_
  refine rc_callIN 94 (n2 := 199) RX10 dX10_init_94 caX0_init rfl rfl (by decide +kernel) inX0_init naX0_init (by decide) (Nat.le_of_ble_eq_true rfl) (by decide) (by decide) (by decide) (fun _ hq => wX0_init_196 (zR (wR (RX3_init_183 (zR (wR (RX1_init_180 (zR (wR (zR (wR (RX9_init_17 (zR (wR (RX5_init 13 (zR (wR (RX5_init 9 (zR (wR (RX4_init_3 (zR (wR (RX6_init_1 (zR R 1)) 0 0 (some 1)) 3)) 0 1 (some 3)) 9)) 0 2 (some 9)) 13)) 0 3 (some 13)) 17)) 0 4 (some 17)) 179) 0 5 (some 179)) 180)) 0 6 (some 180)) 183)) 0 7 (some 183)) 196) μ16 hq) h (fun q17 h => ?_)
  refine rc_putR 97 10 8 kc10 dX10_init_97 ly_0 (by decide) fX10_61 (fun q hq => by cases hq; rfl) rfl rfl ?_
  refine rw_aload_n 100 dX10_init_100 0 rfl ?_
  refine rc_new 101 7 kc7 hpX7 dX10_init_101 ly_199 (fun q hq => by cases hq; exact lX10_65) (by decide) h (fun μ18 h => ?_)
  refine rw_dup 104 dX10_init_104 rfl ?_
  refine rc_callI 105 (n2 := 215) dX10_init_105 caX7_init rfl rfl lX10_67 inX7_init naX7_init (by decide) (Nat.le_of_ble_eq_true rfl) (by decide) (by decide) (by decide) (fun _ hq => wX7_init_199 (zR (wR (RX0_init_196 (zR (wR (RX3_init_183 (zR (wR (RX1_init_180 (zR (wR (zR (wR (RX9_init_17 (zR (wR (RX5_init 13 (zR (wR (RX5_init 9 (zR (wR (RX4_init_3 (zR (wR (RX6_init_1 (zR R 1)) 0 0 (some 1)) 3)) 0 1 (some 3)) 9)) 0 2 (some 9)) 13)) 0 3 (some 13)) 17)) 0 4 (some 17)) 179) 0 5 (some 179)) 180)) 0 6 (some 180)) 183)) 0 7 (some 183)) 196)) 0 8 (some 196)) 199) μ18 hq) h (fun q19 h => ?_)
  refine rc_putR 108 10 9 kc10 dX10_init_108 ly_0 (by decide) fX10_68 (fun q hq => by cases hq; rfl) rfl rfl ?_
  refine rw_aload_n 111 dX10_init_111 0 rfl ?_
  refine rc_new 112 7 kc7 hpX7 dX10_init_112 ly_215 (fun q hq => by cases hq; exact lX10_65) (by decide) h (fun μ20 h => ?_)
  refine rw_dup 115 dX10_init_115 rfl ?_
  refine rc_callI 116 (n2 := 231) dX10_init_116 caX7_init rfl rfl lX10_67 inX7_init naX7_init (by decide) (Nat.le_of_ble_eq_true rfl) (by decide) (by decide) (by decide) (fun _ hq => wX7_init_215 (zR (wR (RX7_init_199 (zR (wR (RX0_init_196 (zR (wR (RX3_init_183 (zR (wR (RX1_init_180 (zR (wR (zR (wR (RX9_init_17 (zR (wR (RX5_init 13 (zR (wR (RX5_init 9 (zR (wR (RX4_init_3 (zR (wR (RX6_init_1 (zR R 1)) 0 0 (some 1)) 3)) 0 1 (some 3)) 9)) 0 2 (some 9)) 13)) 0 3 (some 13)) 17)) 0 4 (some 17)) 179) 0 5 (some 179)) 180)) 0 6 (some 180)) 183)) 0 7 (some 183)) 196)) 0 8 (some 196)) 199)) 0 9 (some 199)) 215) μ20 hq) h (fun q21 h => ?_)
  refine rc_putR 119 10 10 kc10 dX10_init_119 ly_0 (by decide) fX10_72 (fun q hq => by cases hq; rfl) rfl rfl ?_
  refine rw_aload_n 122 dX10_init_122 0 rfl ?_
  refine rw_iconst 123 (v := 0) dX10_init_123 (by decide) ?_
  refine rc_putI 124 10 11 kc10 dX10_init_124 ly_0 (by decide) fX10_75 (fun q hq => by cases hq; rfl) rfl rfl rfl rfl h (fun μ22 h => ?_)
  refine rw_iconst 127 (v := 0) dX10_init_127 (by decide) ?_
  refine rw_istore_n 128 [(0, .ref 0), (1, .int 0)] dX10_init_128 (by decide) rfl ?_
  exact wX10_lp (wR (RX7_init_215 (zR (wR (RX7_init_199 (zR (wR (RX0_init_196 (zR (wR (RX3_init_183 (zR (wR (RX1_init_180 (zR (wR (zR (wR (RX9_init_17 (zR (wR (RX5_init 13 (zR (wR (RX5_init 9 (zR (wR (RX4_init_3 (zR (wR (RX6_init_1 (zR R 1)) 0 0 (some 1)) 3)) 0 1 (some 3)) 9)) 0 2 (some 9)) 13)) 0 3 (some 13)) 17)) 0 4 (some 17)) 179) 0 5 (some 179)) 180)) 0 6 (some 180)) 183)) 0 7 (some 183)) 196)) 0 8 (some 196)) 199)) 0 9 (some 199)) 215)) 0 10 (some 215)) (by simp [wR, zR, zRs, RX6_init_1, RX4_init_3, RX8_init_4, RX5_init, RX9_init_17, ringR_lo, RX1_init_180, RX3_init_183, RX0_init_196, RX7_init_199, RX7_init_215, RX2_init_205, RX2_init_221]) 3 0 μ22 rfl h
