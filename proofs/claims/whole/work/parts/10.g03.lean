def fRS : Nat → Nat → Int32 → Mem → Option (Bool × Mem)
  | 0, _, _, _ => none
  | k + 1, t, a, μ => fX4_readSum_o (fun t a μ => fX4_readProduct_o (fun t a μ => fX4_readUnit_o (fun t a μ => fRS k t a μ) t a μ) t a μ) t a μ
def fX4_readSum (t1 : Nat) (a2 : Int32) (μ : Mem) : Option (Bool × Mem) := fRS 8 t1 a2 μ

theorem wRS : ∀ (k t : Nat) (ht : okX2 Rf0 NF t) (a : Int32) (μ : Mem) {q : Bool × Mem}, fRS k t a μ = some q → Ct mX4_readSum (20 + 3 * k) NF NF [.ref 3, .ref t, .int a] (μ, Rf0, NF) (QN (some (.int (b2i q.1))) q.2 Rf0 NF) := by
  intro k
  induction k with
  | zero => intro t ht a μ q h; cases h
  | succ k ih =>
    intro t ht a μ q h
    refine wX4_readSum_o _ (20 + 3 * (k + 1)) (20 + 3 * k + 2) (by omega) (by omega) ?_ t ht a μ h
    intro t ht a μ q h
    refine wX4_readProduct_o _ (20 + 3 * k + 2) (20 + 3 * k + 1) (by omega) (by omega) ?_ t ht a μ h
    intro t ht a μ q h
    refine wX4_readUnit_o _ (20 + 3 * k + 1) (20 + 3 * k) (by omega) (by omega) ?_ t ht a μ h
    intro t ht a μ q h
    exact ih t ht a μ h
theorem wX4_readSum (t1 : Nat) (ht1 : okX2 Rf0 NF t1) (a2 : Int32) (μ : Mem) {res : Bool × Mem} (h : fX4_readSum t1 a2 μ = some res) : Ct mX4_readSum 44 NF NF [.ref 3, .ref t1, .int a2] (μ, Rf0, NF) (QN (some (.int (b2i res.1))) res.2 Rf0 NF) := wRS 8 t1 ht1 a2 μ h

def fX2_aimBehind (t0 : Nat) (a1 : Int32) (μ : Mem) : Option (Mem) :=
  if inb a1 408 then nm (wI μ (t0 + 2) a1.toNatClampNeg (μ.1 t0 3)) fun μ1 =>
  some μ1
  else none
set_option maxRecDepth 100000 in
theorem wX2_aimBehind (t0 : Nat) (ht0 : okX2 Rf0 NF t0) (a1 : Int32) (μ : Mem) {res : Mem} (h : fX2_aimBehind t0 a1 μ = some res) : Ct mX2_aimBehind 1 NF NF [.ref t0, .int a1] (μ, Rf0, NF) (QN none res Rf0 NF) := by
  unfold fX2_aimBehind at h
  show RW mX2_aimBehind 1 NF NF 0 [(0, .ref t0), (1, .int a1)] [] (μ, Rf0, NF) (QN none res Rf0 NF)
  refine rw_aload_n 0 dX2_aimBehind_0 0 rfl ?_
  refine rw_getR 1 2 1 kc2 dX2_aimBehind_1 (o2l ht0) (o2n ht0) fX2_15 rfl (o2r1 ht0) ?_
  refine rw_iload_n 4 dX2_aimBehind_4 1 rfl ?_
  refine rw_aload_n 5 dX2_aimBehind_5 0 rfl ?_
  refine rw_getI 6 2 3 kc2 dX2_aimBehind_6 (o2l ht0) (o2n ht0) fX2_21 rfl ?_
  refine rn_iast 9 dX2_aimBehind_9 (o2l1 ht0) (o2n1 ht0) h (fun μ1 h => ?_)
  exact rn_vret 10 dX2_aimBehind_10 rfl h
def fX4_readLaw_28 (t1 : Nat)    (K : Mem → Option (Bool × Mem)) : Nat → Int32 → Mem → Option (Bool × Mem)
  | 0, _, _ => none
  | n + 1, v3, μ =>
    if 4 < v3 then
      K μ
    else
      (fX4_kind μ).bind fun q4 =>
      if q4 = 22 then
        if v3 = 4 then
          (fX4_fail 2 μ).bind fun q15 =>
          some (q15.1, q15.2)
        else
          (fX4_take 22 μ).bind fun q5 =>
          if q5.1 = true then
            (fX4_readSum t1 0 q5.2).bind fun q6 =>
            if q6.1 = true then
              (fX4_take 10 q6.2).bind fun q7 =>
              if q7.1 = true then
                (fX4_readSum t1 0 q7.2).bind fun q8 =>
                if q8.1 = true then
                  (fX4_take 23 q8.2).bind fun q9 =>
                  if q9.1 = true then
                    (fX2_add t1 10 0 q9.2).bind fun q10 =>
                    (fX4_readSum t1 0 q10.2).bind fun q11 =>
                    if q11.1 = true then
                      (fX4_take 24 q11.2).bind fun q12 =>
                      if q12.1 = true then
                        (fX2_add t1 0 0 q12.2).bind fun q13 =>
                        (fX2_aimBehind t1 q10.1 q13.2).bind fun q14 =>
                        fX4_readLaw_28 t1 K n (v3 + 1) q14
                      else
                        some (false, q12.2)
                    else
                      some (false, q11.2)
                  else
                    some (false, q9.2)
                else
                  some (false, q8.2)
              else
                some (false, q7.2)
            else
              some (false, q6.2)
          else
            some (false, q5.2)
      else
        K μ
def fX4_readLaw_j148 (t1 : Nat)    (μ : Mem) : Option (Bool × Mem) :=
  (fX4_readSum t1 0 μ).bind fun q17 =>
  if q17.1 = true then
    (fX4_take 4 q17.2).bind fun q18 =>
    if q18.1 = true then
      (fX2_add t1 0 0 q18.2).bind fun q19 =>
      some (true, q19.2)
    else
      some (false, q18.2)
  else
    some (false, q17.2)
def fX4_readLaw (t1 : Nat) (a2 : Int32) (μ : Mem) : Option (Bool × Mem) :=
  (fX4_take (16 + a2) μ).bind fun q1 =>
  if q1.1 = true then
    (fX4_take 5 q1.2).bind fun q2 =>
    if q2.1 = true then
      (fX2_startLaw t1 a2 q2.2).bind fun q3 =>
      fX4_readLaw_28 t1 (fun μ16 =>
          fX4_readLaw_j148 t1 μ16
      ) FU 0 q3
    else
      some (false, q2.2)
  else
    some (false, q1.2)
set_option maxRecDepth 100000 in
theorem wX4_readLaw_28 (t1 : Nat) (ht1 : okX2 Rf0 NF t1)    (K : Mem → Option (Bool × Mem)) {res : Bool × Mem} (hK : ∀  (μ : Mem), K μ = some res → RW mX4_readLaw 61 NF NF 148 [(0, .ref 3), (1, .ref t1)] [] (μ, Rf0, NF) (QN (some (.int (b2i res.1))) res.2 Rf0 NF)) : ∀ (n9 : Nat) (v3 : Int32) (μ : Mem), fX4_readLaw_28 t1 K n9 v3 μ = some res → RW mX4_readLaw 61 NF NF 28 [(0, .ref 3), (1, .ref t1), (3, .int v3)] [] (μ, Rf0, NF) (QN (some (.int (b2i res.1))) res.2 Rf0 NF) := by
  intro n9
  induction n9 with
  | zero => intro _ _ h; cases h
  | succ n ih =>
    intro v3 μ h
    unfold fX4_readLaw_28 at h
    refine rw_iload_n 28 dX4_readLaw_28 2 rfl ?_
    refine rw_iconst 29 (v := 4) dX4_readLaw_29 (by decide) ?_
    refine rn_icmp_gt 30 148 dX4_readLaw_30 (by decide) h (fun _ h => ?_) (fun _ h => ?_)
    · refine rw_pick 148 [0, 1] rfl ?_
      exact hK μ h
    · refine rw_aload_n 33 dX4_readLaw_33 0 rfl ?_
      refine rn_cVpi 34 4 [] dX4_readLaw_34 caX4_kind lX4_43 inX4_kind slX4_kind rfl ly_3 ⟨_, rfl, rfl⟩ rln_3 naX4_kind (Nat.le_of_ble_eq_true rfl) (Nat.le_of_ble_eq_true rfl) (by decide) (fun _ hq => wX4_kind μ hq) h (fun q4 h => ?_)
      refine rw_bipush 37 (v := 22) dX4_readLaw_37 (by decide) ?_
      refine rn_icmp_ne 39 148 dX4_readLaw_39 (by decide) h (fun _ h => ?_) (fun _ h => ?_)
      · refine rw_pick 148 [0, 1] rfl ?_
        exact hK μ h
      · refine rw_iload_n 42 dX4_readLaw_42 2 rfl ?_
        refine rw_iconst 43 (v := 4) dX4_readLaw_43 (by decide) ?_
        refine rn_icmp_ne 44 53 dX4_readLaw_44 (by decide) h (fun _ h => ?_) (fun _ h => ?_)
        · refine rw_aload_n 53 dX4_readLaw_53 0 rfl ?_
          refine rw_bipush 54 (v := 22) dX4_readLaw_54 (by decide) ?_
          refine rn_cVmb 56 4 [.int 22] dX4_readLaw_56 caX4_take lX4_78 inX4_take slX4_take rfl ly_3 ⟨_, rfl, rfl⟩ rln_3 naX4_take (Nat.le_of_ble_eq_true rfl) (Nat.le_of_ble_eq_true rfl) (by decide) (fun _ hq => wX4_take 22 μ hq) h (fun q5 h => ?_)
          refine rn_ifb_eq 59 98 dX4_readLaw_59 (by decide) h (fun _ h => ?_) (fun _ h => ?_)
          · refine rw_iconst 98 (v := 0) dX4_readLaw_98 (by decide) ?_
            exact rn_zret2 99 (v := false) dX4_readLaw_99 rfl h
          · refine rw_aload_n 62 dX4_readLaw_62 0 rfl ?_
            refine rw_aload_n 63 dX4_readLaw_63 1 rfl ?_
            refine rw_iconst 64 (v := 0) dX4_readLaw_64 (by decide) ?_
            refine rn_cVmb 65 4 [.ref t1, .int 0] dX4_readLaw_65 caX4_readSum lX4_143 inX4_readSum slX4_readSum rfl ly_3 ⟨_, rfl, rfl⟩ rln_3 naX4_readSum (Nat.le_of_ble_eq_true rfl) (Nat.le_of_ble_eq_true rfl) (by decide) (fun _ hq => wX4_readSum t1 ht1 0 q5.2 hq) h (fun q6 h => ?_)
            refine rn_ifb_eq 68 98 dX4_readLaw_68 (by decide) h (fun _ h => ?_) (fun _ h => ?_)
            · refine rw_iconst 98 (v := 0) dX4_readLaw_98 (by decide) ?_
              exact rn_zret2 99 (v := false) dX4_readLaw_99 rfl h
            · refine rw_aload_n 71 dX4_readLaw_71 0 rfl ?_
              refine rw_bipush 72 (v := 10) dX4_readLaw_72 (by decide) ?_
              refine rn_cVmb 74 4 [.int 10] dX4_readLaw_74 caX4_take lX4_78 inX4_take slX4_take rfl ly_3 ⟨_, rfl, rfl⟩ rln_3 naX4_take (Nat.le_of_ble_eq_true rfl) (Nat.le_of_ble_eq_true rfl) (by decide) (fun _ hq => wX4_take 10 q6.2 hq) h (fun q7 h => ?_)
              refine rn_ifb_eq 77 98 dX4_readLaw_77 (by decide) h (fun _ h => ?_) (fun _ h => ?_)
              · refine rw_iconst 98 (v := 0) dX4_readLaw_98 (by decide) ?_
                exact rn_zret2 99 (v := false) dX4_readLaw_99 rfl h
              · refine rw_aload_n 80 dX4_readLaw_80 0 rfl ?_
                refine rw_aload_n 81 dX4_readLaw_81 1 rfl ?_
                refine rw_iconst 82 (v := 0) dX4_readLaw_82 (by decide) ?_
                refine rn_cVmb 83 4 [.ref t1, .int 0] dX4_readLaw_83 caX4_readSum lX4_143 inX4_readSum slX4_readSum rfl ly_3 ⟨_, rfl, rfl⟩ rln_3 naX4_readSum (Nat.le_of_ble_eq_true rfl) (Nat.le_of_ble_eq_true rfl) (by decide) (fun _ hq => wX4_readSum t1 ht1 0 q7.2 hq) h (fun q8 h => ?_)
                refine rn_ifb_eq 86 98 dX4_readLaw_86 (by decide) h (fun _ h => ?_) (fun _ h => ?_)
                · refine rw_iconst 98 (v := 0) dX4_readLaw_98 (by decide) ?_
                  exact rn_zret2 99 (v := false) dX4_readLaw_99 rfl h
                · refine rw_aload_n 89 dX4_readLaw_89 0 rfl ?_
                  refine rw_bipush 90 (v := 23) dX4_readLaw_90 (by decide) ?_
                  refine rn_cVmb 92 4 [.int 23] dX4_readLaw_92 caX4_take lX4_78 inX4_take slX4_take rfl ly_3 ⟨_, rfl, rfl⟩ rln_3 naX4_take (Nat.le_of_ble_eq_true rfl) (Nat.le_of_ble_eq_true rfl) (by decide) (fun _ hq => wX4_take 23 q8.2 hq) h (fun q9 h => ?_)
                  refine rn_ifb_ne 95 100 dX4_readLaw_95 (by decide) h (fun _ h => ?_) (fun _ h => ?_)
                  · refine rw_aload_n 100 dX4_readLaw_100 1 rfl ?_
                    refine rw_bipush 101 (v := 10) dX4_readLaw_101 (by decide) ?_
                    refine rw_iconst 103 (v := 0) dX4_readLaw_103 (by decide) ?_
                    refine rn_cVmi 104 2 [.int 10, .int 0] dX4_readLaw_104 caX2_add lX4_146 inX2_add slX2_add rfl (o2l ht1) ⟨_, rfl, rfl⟩ (o2n ht1) naX2_add (Nat.le_of_ble_eq_true rfl) (Nat.le_of_ble_eq_true rfl) (by decide) (fun _ hq => wX2_add t1 ht1 10 0 q9.2 hq) h (fun q10 h => ?_)
                    refine rw_istore 107 [(0, .ref 3), (1, .ref t1), (3, .int v3), (4, .int q10.1)] dX4_readLaw_107 (by decide) rfl ?_
                    refine rw_aload_n 109 dX4_readLaw_109 0 rfl ?_
                    refine rw_aload_n 110 dX4_readLaw_110 1 rfl ?_
                    refine rw_iconst 111 (v := 0) dX4_readLaw_111 (by decide) ?_
                    refine rn_cVmb 112 4 [.ref t1, .int 0] dX4_readLaw_112 caX4_readSum lX4_143 inX4_readSum slX4_readSum rfl ly_3 ⟨_, rfl, rfl⟩ rln_3 naX4_readSum (Nat.le_of_ble_eq_true rfl) (Nat.le_of_ble_eq_true rfl) (by decide) (fun _ hq => wX4_readSum t1 ht1 0 q10.2 hq) h (fun q11 h => ?_)
                    refine rn_ifb_eq 115 127 dX4_readLaw_115 (by decide) h (fun _ h => ?_) (fun _ h => ?_)
                    · refine rw_iconst 127 (v := 0) dX4_readLaw_127 (by decide) ?_
                      exact rn_zret2 128 (v := false) dX4_readLaw_128 rfl h
                    · refine rw_aload_n 118 dX4_readLaw_118 0 rfl ?_
                      refine rw_bipush 119 (v := 24) dX4_readLaw_119 (by decide) ?_
                      refine rn_cVmb 121 4 [.int 24] dX4_readLaw_121 caX4_take lX4_78 inX4_take slX4_take rfl ly_3 ⟨_, rfl, rfl⟩ rln_3 naX4_take (Nat.le_of_ble_eq_true rfl) (Nat.le_of_ble_eq_true rfl) (by decide) (fun _ hq => wX4_take 24 q11.2 hq) h (fun q12 h => ?_)
                      refine rn_ifb_ne 124 129 dX4_readLaw_124 (by decide) h (fun _ h => ?_) (fun _ h => ?_)
                      · refine rw_aload_n 129 dX4_readLaw_129 1 rfl ?_
                        refine rw_iconst 130 (v := 0) dX4_readLaw_130 (by decide) ?_
                        refine rw_iconst 131 (v := 0) dX4_readLaw_131 (by decide) ?_
                        refine rn_cVmi 132 2 [.int 0, .int 0] dX4_readLaw_132 caX2_add lX4_146 inX2_add slX2_add rfl (o2l ht1) ⟨_, rfl, rfl⟩ (o2n ht1) naX2_add (Nat.le_of_ble_eq_true rfl) (Nat.le_of_ble_eq_true rfl) (by decide) (fun _ hq => wX2_add t1 ht1 0 0 q12.2 hq) h (fun q13 h => ?_)
                        refine rw_pop 135 dX4_readLaw_135 rfl ?_
                        refine rw_aload_n 136 dX4_readLaw_136 1 rfl ?_
                        refine rw_iload 137 dX4_readLaw_137 3 rfl ?_
                        refine rn_cVmv 139 2 [.int q10.1] dX4_readLaw_139 caX2_aimBehind lX4_150 inX2_aimBehind slX2_aimBehind rfl (o2l ht1) ⟨_, rfl, rfl⟩ (o2n ht1) naX2_aimBehind (Nat.le_of_ble_eq_true rfl) (Nat.le_of_ble_eq_true rfl) (by decide) (fun _ hq => wX2_aimBehind t1 ht1 q10.1 q13.2 hq) h (fun q14 h => ?_)
                        refine rw_iinc 142 [(0, .ref 3), (1, .ref t1), (3, .int (v3 + 1)), (4, .int q10.1)] dX4_readLaw_142 2 rfl rfl (by decide) rfl ?_
                        refine rw_goto 145 28 dX4_readLaw_145 (by decide) ?_
                        refine rw_pick 28 [0, 1, 2] rfl ?_
                        exact ih (v3 + 1) q14 h
                      · refine rw_iconst 127 (v := 0) dX4_readLaw_127 (by decide) ?_
                        exact rn_zret2 128 (v := false) dX4_readLaw_128 rfl h
                  · refine rw_iconst 98 (v := 0) dX4_readLaw_98 (by decide) ?_
                    exact rn_zret2 99 (v := false) dX4_readLaw_99 rfl h
        · refine rw_aload_n 47 dX4_readLaw_47 0 rfl ?_
          refine rw_iconst 48 (v := 2) dX4_readLaw_48 (by decide) ?_
          refine rn_cVmb 49 4 [.int 2] dX4_readLaw_49 caX4_fail lX4_96 inX4_fail slX4_fail rfl ly_3 ⟨_, rfl, rfl⟩ rln_3 naX4_fail (Nat.le_of_ble_eq_true rfl) (Nat.le_of_ble_eq_true rfl) (by decide) (fun _ hq => wX4_fail 2 μ hq) h (fun q15 h => ?_)
          exact rn_zret2 52 (v := q15.1) dX4_readLaw_52 rfl h
set_option maxRecDepth 100000 in
theorem wX4_readLaw_j148 (t1 : Nat) (ht1 : okX2 Rf0 NF t1)  {res : Bool × Mem}  (μ : Mem)  (h : fX4_readLaw_j148 t1 μ = some res) : RW mX4_readLaw 61 NF NF 148 [(0, .ref 3), (1, .ref t1)] [] (μ, Rf0, NF) (QN (some (.int (b2i res.1))) res.2 Rf0 NF) := by
  unfold fX4_readLaw_j148 at h
  refine rw_aload_n 148 dX4_readLaw_148 0 rfl ?_
  refine rw_aload_n 149 dX4_readLaw_149 1 rfl ?_
  refine rw_iconst 150 (v := 0) dX4_readLaw_150 (by decide) ?_
  refine rn_cVmb 151 4 [.ref t1, .int 0] dX4_readLaw_151 caX4_readSum lX4_143 inX4_readSum slX4_readSum rfl ly_3 ⟨_, rfl, rfl⟩ rln_3 naX4_readSum (Nat.le_of_ble_eq_true rfl) (Nat.le_of_ble_eq_true rfl) (by decide) (fun _ hq => wX4_readSum t1 ht1 0 μ hq) h (fun q17 h => ?_)
  refine rn_ifb_eq 154 165 dX4_readLaw_154 (by decide) h (fun _ h => ?_) (fun _ h => ?_)
  · refine rw_iconst 165 (v := 0) dX4_readLaw_165 (by decide) ?_
    exact rn_zret2 166 (v := false) dX4_readLaw_166 rfl h
  · refine rw_aload_n 157 dX4_readLaw_157 0 rfl ?_
    refine rw_iconst 158 (v := 4) dX4_readLaw_158 (by decide) ?_
    refine rn_cVmb 159 4 [.int 4] dX4_readLaw_159 caX4_take lX4_78 inX4_take slX4_take rfl ly_3 ⟨_, rfl, rfl⟩ rln_3 naX4_take (Nat.le_of_ble_eq_true rfl) (Nat.le_of_ble_eq_true rfl) (by decide) (fun _ hq => wX4_take 4 q17.2 hq) h (fun q18 h => ?_)
    refine rn_ifb_ne 162 167 dX4_readLaw_162 (by decide) h (fun _ h => ?_) (fun _ h => ?_)
    · refine rw_aload_n 167 dX4_readLaw_167 1 rfl ?_
      refine rw_iconst 168 (v := 0) dX4_readLaw_168 (by decide) ?_
      refine rw_iconst 169 (v := 0) dX4_readLaw_169 (by decide) ?_
      refine rn_cVmi 170 2 [.int 0, .int 0] dX4_readLaw_170 caX2_add lX4_146 inX2_add slX2_add rfl (o2l ht1) ⟨_, rfl, rfl⟩ (o2n ht1) naX2_add (Nat.le_of_ble_eq_true rfl) (Nat.le_of_ble_eq_true rfl) (by decide) (fun _ hq => wX2_add t1 ht1 0 0 q18.2 hq) h (fun q19 h => ?_)
      refine rw_pop 173 dX4_readLaw_173 rfl ?_
      refine rw_iconst 174 (v := 1) dX4_readLaw_174 (by decide) ?_
      exact rn_zret2 175 (v := true) dX4_readLaw_175 rfl h
    · refine rw_iconst 165 (v := 0) dX4_readLaw_165 (by decide) ?_
      exact rn_zret2 166 (v := false) dX4_readLaw_166 rfl h
set_option maxRecDepth 100000 in
theorem wX4_readLaw (t1 : Nat) (ht1 : okX2 Rf0 NF t1) (a2 : Int32) (μ : Mem) {res : Bool × Mem} (h : fX4_readLaw t1 a2 μ = some res) : Ct mX4_readLaw 61 NF NF [.ref 3, .ref t1, .int a2] (μ, Rf0, NF) (QN (some (.int (b2i res.1))) res.2 Rf0 NF) := by
  unfold fX4_readLaw at h
  show RW mX4_readLaw 61 NF NF 0 [(0, .ref 3), (1, .ref t1), (2, .int a2)] [] (μ, Rf0, NF) (QN (some (.int (b2i res.1))) res.2 Rf0 NF)
  refine rw_aload_n 0 dX4_readLaw_0 0 rfl ?_
  refine rw_bipush 1 (v := 16) dX4_readLaw_1 (by decide) ?_
  refine rw_iload_n 3 dX4_readLaw_3 2 rfl ?_
  refine rw_iadd 4 dX4_readLaw_4 ?_
  refine rn_cVmb 5 4 [.int (16 + a2)] dX4_readLaw_5 caX4_take lX4_78 inX4_take slX4_take rfl ly_3 ⟨_, rfl, rfl⟩ rln_3 naX4_take (Nat.le_of_ble_eq_true rfl) (Nat.le_of_ble_eq_true rfl) (by decide) (fun _ hq => wX4_take (16 + a2) μ hq) h (fun q1 h => ?_)
  refine rn_ifb_eq 8 19 dX4_readLaw_8 (by decide) h (fun _ h => ?_) (fun _ h => ?_)
  · refine rw_iconst 19 (v := 0) dX4_readLaw_19 (by decide) ?_
    exact rn_zret2 20 (v := false) dX4_readLaw_20 rfl h
  · refine rw_aload_n 11 dX4_readLaw_11 0 rfl ?_
    refine rw_iconst 12 (v := 5) dX4_readLaw_12 (by decide) ?_
    refine rn_cVmb 13 4 [.int 5] dX4_readLaw_13 caX4_take lX4_78 inX4_take slX4_take rfl ly_3 ⟨_, rfl, rfl⟩ rln_3 naX4_take (Nat.le_of_ble_eq_true rfl) (Nat.le_of_ble_eq_true rfl) (by decide) (fun _ hq => wX4_take 5 q1.2 hq) h (fun q2 h => ?_)
    refine rn_ifb_ne 16 21 dX4_readLaw_16 (by decide) h (fun _ h => ?_) (fun _ h => ?_)
    · refine rw_aload_n 21 dX4_readLaw_21 1 rfl ?_
      refine rw_iload_n 22 dX4_readLaw_22 2 rfl ?_
      refine rn_cVmv 23 2 [.int a2] dX4_readLaw_23 caX2_startLaw lX4_137 inX2_startLaw slX2_startLaw rfl (o2l ht1) ⟨_, rfl, rfl⟩ (o2n ht1) naX2_startLaw (Nat.le_of_ble_eq_true rfl) (Nat.le_of_ble_eq_true rfl) (by decide) (fun _ hq => wX2_startLaw t1 ht1 a2 q2.2 hq) h (fun q3 h => ?_)
      refine rw_iconst 26 (v := 0) dX4_readLaw_26 (by decide) ?_
      refine rw_istore_n 27 [(0, .ref 3), (1, .ref t1), (2, .int a2), (3, .int 0)] dX4_readLaw_27 (by decide) rfl ?_
      refine rw_pick 28 [0, 1, 3] rfl ?_
      refine wX4_readLaw_28 t1 ht1 _ (fun μ16 h => ?_) FU 0 q3 h
      exact wX4_readLaw_j148 t1 ht1 μ16 h
    · refine rw_iconst 19 (v := 0) dX4_readLaw_19 (by decide) ?_
      exact rn_zret2 20 (v := false) dX4_readLaw_20 rfl h
def fX4_readTell_j66 (t1 : Nat)   (v2 : Int32) (μ : Mem) : Option (Bool × Mem) :=
  if v2 = 20 then
    (fX4_take v2 μ).bind fun q18 =>
    if q18.1 = true then
      (fX4_takeInt 1 999 q18.2).bind fun q22 =>
      if q22.1 = true then
        (fX4_take 4 q22.2).bind fun q26 =>
        if q26.1 = true then
          if (1 : Int32) = 0 then
            nm (wI q26.2 t1 8 (q26.2.1 t1 8)) fun μ30 =>
            some (true, μ30)
          else
            (fX4_intBehind 2 q26.2).bind fun q31 =>
            nm (wI q26.2 t1 8 q31) fun μ32 =>
            some (true, μ32)
        else
          if (0 : Int32) = 0 then
            nm (wI q26.2 t1 8 (q26.2.1 t1 8)) fun μ27 =>
            some (false, μ27)
          else
            (fX4_intBehind 2 q26.2).bind fun q28 =>
            nm (wI q26.2 t1 8 q28) fun μ29 =>
            some (false, μ29)
      else
        if (0 : Int32) = 0 then
          nm (wI q22.2 t1 8 (q22.2.1 t1 8)) fun μ23 =>
          some (false, μ23)
        else
          (fX4_intBehind 2 q22.2).bind fun q24 =>
          nm (wI q22.2 t1 8 q24) fun μ25 =>
          some (false, μ25)
    else
      if (0 : Int32) = 0 then
        nm (wI q18.2 t1 8 (q18.2.1 t1 8)) fun μ19 =>
        some (false, μ19)
      else
        (fX4_intBehind 2 q18.2).bind fun q20 =>
        nm (wI q18.2 t1 8 q20) fun μ21 =>
        some (false, μ21)
  else
    if v2 = 21 then
      (fX4_take v2 μ).bind fun q3 =>
      if q3.1 = true then
        (fX4_takeInt 0 9999 q3.2).bind fun q7 =>
        if q7.1 = true then
          (fX4_take 4 q7.2).bind fun q11 =>
          if q11.1 = true then
            if (1 : Int32) = 0 then
              nm (wI q11.2 t1 9 (q11.2.1 t1 9)) fun μ15 =>
              some (true, μ15)
            else
              (fX4_intBehind 2 q11.2).bind fun q16 =>
              nm (wI q11.2 t1 9 q16) fun μ17 =>
              some (true, μ17)
          else
            if (0 : Int32) = 0 then
              nm (wI q11.2 t1 9 (q11.2.1 t1 9)) fun μ12 =>
              some (false, μ12)
            else
              (fX4_intBehind 2 q11.2).bind fun q13 =>
              nm (wI q11.2 t1 9 q13) fun μ14 =>
              some (false, μ14)
        else
          if (0 : Int32) = 0 then
            nm (wI q7.2 t1 9 (q7.2.1 t1 9)) fun μ8 =>
            some (false, μ8)
          else
            (fX4_intBehind 2 q7.2).bind fun q9 =>
            nm (wI q7.2 t1 9 q9) fun μ10 =>
            some (false, μ10)
      else
        if (0 : Int32) = 0 then
          nm (wI q3.2 t1 9 (q3.2.1 t1 9)) fun μ4 =>
          some (false, μ4)
        else
          (fX4_intBehind 2 q3.2).bind fun q5 =>
          nm (wI q3.2 t1 9 q5) fun μ6 =>
          some (false, μ6)
    else
      (fX4_fail 1 μ).bind fun q2 =>
      some (q2.1, q2.2)
def fX4_readTell (t1 : Nat) (μ : Mem) : Option (Bool × Mem) :=
  (fX4_kind μ).bind fun q1 =>
  if q1 = 13 then
    (fX4_readSunday t1 μ).bind fun q36 =>
    some (q36.1, q36.2)
  else
    if q1 = 14 then
      (fX4_readGuest t1 μ).bind fun q35 =>
      some (q35.1, q35.2)
    else
      if q1 = 15 then
        (fX4_readFoes t1 μ).bind fun q34 =>
        some (q34.1, q34.2)
      else
        if q1 < 16 then
          fX4_readTell_j66 t1 q1 μ
        else
          if 19 < q1 then
            fX4_readTell_j66 t1 q1 μ
          else
            (fX4_readLaw (t1 + 6) (q1 - 16) μ).bind fun q33 =>
            some (q33.1, q33.2)
set_option maxRecDepth 100000 in
theorem wX4_readTell_j66 (t1 : Nat) (ht1 : okX7 Rf0 NF t1)  {res : Bool × Mem} (v2 : Int32) (μ : Mem)  (h : fX4_readTell_j66 t1 v2 μ = some res) : RW mX4_readTell 62 NF NF 66 [(0, .ref 3), (1, .ref t1), (2, .int v2)] [] (μ, Rf0, NF) (QN (some (.int (b2i res.1))) res.2 Rf0 NF) := by
  unfold fX4_readTell_j66 at h
  refine rw_iload_n 66 dX4_readTell_66 2 rfl ?_
  refine rw_bipush 67 (v := 20) dX4_readTell_67 (by decide) ?_
  refine rn_icmp_ne 69 127 dX4_readTell_69 (by decide) h (fun _ h => ?_) (fun _ h => ?_)
  · refine rw_iload_n 127 dX4_readTell_127 2 rfl ?_
    refine rw_bipush 128 (v := 21) dX4_readTell_128 (by decide) ?_
    refine rn_icmp_ne 130 188 dX4_readTell_130 (by decide) h (fun _ h => ?_) (fun _ h => ?_)
    · refine rw_aload_n 188 dX4_readTell_188 0 rfl ?_
      refine rw_iconst 189 (v := 1) dX4_readTell_189 (by decide) ?_
      refine rn_cVmb 190 4 [.int 1] dX4_readTell_190 caX4_fail lX4_96 inX4_fail slX4_fail rfl ly_3 ⟨_, rfl, rfl⟩ rln_3 naX4_fail (Nat.le_of_ble_eq_true rfl) (Nat.le_of_ble_eq_true rfl) (by decide) (fun _ hq => wX4_fail 1 μ hq) h (fun q2 h => ?_)
      exact rn_zret2 193 (v := q2.1) dX4_readTell_193 rfl h
    · refine rw_aload_n 133 dX4_readTell_133 0 rfl ?_
      refine rw_iload_n 134 dX4_readTell_134 2 rfl ?_
      refine rn_cVmb 135 4 [.int v2] dX4_readTell_135 caX4_take lX4_78 inX4_take slX4_take rfl ly_3 ⟨_, rfl, rfl⟩ rln_3 naX4_take (Nat.le_of_ble_eq_true rfl) (Nat.le_of_ble_eq_true rfl) (by decide) (fun _ hq => wX4_take v2 μ hq) h (fun q3 h => ?_)
      refine rn_ifb_eq 138 164 dX4_readTell_138 (by decide) h (fun _ h => ?_) (fun _ h => ?_)
      · refine rw_iconst 164 (v := 0) dX4_readTell_164 (by decide) ?_
        refine rw_istore_n 165 [(0, .ref 3), (1, .ref t1), (2, .int v2), (3, .int 0)] dX4_readTell_165 (by decide) rfl ?_
        refine rw_aload_n 166 dX4_readTell_166 1 rfl ?_
        refine rw_iload_n 167 dX4_readTell_167 3 rfl ?_
        refine rn_if_eq 168 179 dX4_readTell_168 (by decide) h (fun _ h => ?_) (fun _ h => ?_)
        · refine rw_aload_n 179 dX4_readTell_179 1 rfl ?_
          refine rw_getI 180 7 9 kc7 dX4_readTell_180 (o7l ht1) (o7n ht1) fX4_93 rfl ?_
          refine rn_putI 183 7 9 kc7 dX4_readTell_183 (o7l ht1) (o7n ht1) fX4_93 (fun q hq => by cases hq; rfl) rfl rfl rfl h (fun μ4 h => ?_)
          refine rw_iload_n 186 dX4_readTell_186 3 rfl ?_
          exact rn_zret2 187 (v := false) dX4_readTell_187 rfl h
        · refine rw_aload_n 171 dX4_readTell_171 0 rfl ?_
          refine rw_iconst 172 (v := 2) dX4_readTell_172 (by decide) ?_
          refine rn_cVpi 173 4 [.int 2] dX4_readTell_173 caX4_intBehind lX4_86 inX4_intBehind slX4_intBehind rfl ly_3 ⟨_, rfl, rfl⟩ rln_3 naX4_intBehind (Nat.le_of_ble_eq_true rfl) (Nat.le_of_ble_eq_true rfl) (by decide) (fun _ hq => wX4_intBehind 2 q3.2 hq) h (fun q5 h => ?_)
          refine rw_goto 176 183 dX4_readTell_176 (by decide) ?_
          refine rn_putI 183 7 9 kc7 dX4_readTell_183 (o7l ht1) (o7n ht1) fX4_93 (fun q hq => by cases hq; rfl) rfl rfl rfl h (fun μ6 h => ?_)
          refine rw_iload_n 186 dX4_readTell_186 3 rfl ?_
          exact rn_zret2 187 (v := false) dX4_readTell_187 rfl h
      · refine rw_aload_n 141 dX4_readTell_141 0 rfl ?_
        refine rw_iconst 142 (v := 0) dX4_readTell_142 (by decide) ?_
        refine rw_sipush 143 (v := 9999) dX4_readTell_143 (by decide) ?_
        refine rn_cVmb 146 4 [.int 0, .int 9999] dX4_readTell_146 caX4_takeInt lX4_82 inX4_takeInt slX4_takeInt rfl ly_3 ⟨_, rfl, rfl⟩ rln_3 naX4_takeInt (Nat.le_of_ble_eq_true rfl) (Nat.le_of_ble_eq_true rfl) (by decide) (fun _ hq => wX4_takeInt 0 9999 q3.2 hq) h (fun q7 h => ?_)
        refine rn_ifb_eq 149 164 dX4_readTell_149 (by decide) h (fun _ h => ?_) (fun _ h => ?_)
        · refine rw_iconst 164 (v := 0) dX4_readTell_164 (by decide) ?_
          refine rw_istore_n 165 [(0, .ref 3), (1, .ref t1), (2, .int v2), (3, .int 0)] dX4_readTell_165 (by decide) rfl ?_
          refine rw_aload_n 166 dX4_readTell_166 1 rfl ?_
          refine rw_iload_n 167 dX4_readTell_167 3 rfl ?_
          refine rn_if_eq 168 179 dX4_readTell_168 (by decide) h (fun _ h => ?_) (fun _ h => ?_)
          · refine rw_aload_n 179 dX4_readTell_179 1 rfl ?_
            refine rw_getI 180 7 9 kc7 dX4_readTell_180 (o7l ht1) (o7n ht1) fX4_93 rfl ?_
            refine rn_putI 183 7 9 kc7 dX4_readTell_183 (o7l ht1) (o7n ht1) fX4_93 (fun q hq => by cases hq; rfl) rfl rfl rfl h (fun μ8 h => ?_)
            refine rw_iload_n 186 dX4_readTell_186 3 rfl ?_
            exact rn_zret2 187 (v := false) dX4_readTell_187 rfl h
          · refine rw_aload_n 171 dX4_readTell_171 0 rfl ?_
            refine rw_iconst 172 (v := 2) dX4_readTell_172 (by decide) ?_
            refine rn_cVpi 173 4 [.int 2] dX4_readTell_173 caX4_intBehind lX4_86 inX4_intBehind slX4_intBehind rfl ly_3 ⟨_, rfl, rfl⟩ rln_3 naX4_intBehind (Nat.le_of_ble_eq_true rfl) (Nat.le_of_ble_eq_true rfl) (by decide) (fun _ hq => wX4_intBehind 2 q7.2 hq) h (fun q9 h => ?_)
            refine rw_goto 176 183 dX4_readTell_176 (by decide) ?_
            refine rn_putI 183 7 9 kc7 dX4_readTell_183 (o7l ht1) (o7n ht1) fX4_93 (fun q hq => by cases hq; rfl) rfl rfl rfl h (fun μ10 h => ?_)
            refine rw_iload_n 186 dX4_readTell_186 3 rfl ?_
            exact rn_zret2 187 (v := false) dX4_readTell_187 rfl h
        · refine rw_aload_n 152 dX4_readTell_152 0 rfl ?_
          refine rw_iconst 153 (v := 4) dX4_readTell_153 (by decide) ?_
          refine rn_cVmb 154 4 [.int 4] dX4_readTell_154 caX4_take lX4_78 inX4_take slX4_take rfl ly_3 ⟨_, rfl, rfl⟩ rln_3 naX4_take (Nat.le_of_ble_eq_true rfl) (Nat.le_of_ble_eq_true rfl) (by decide) (fun _ hq => wX4_take 4 q7.2 hq) h (fun q11 h => ?_)
          refine rn_ifb_eq 157 164 dX4_readTell_157 (by decide) h (fun _ h => ?_) (fun _ h => ?_)
          · refine rw_iconst 164 (v := 0) dX4_readTell_164 (by decide) ?_
            refine rw_istore_n 165 [(0, .ref 3), (1, .ref t1), (2, .int v2), (3, .int 0)] dX4_readTell_165 (by decide) rfl ?_
            refine rw_aload_n 166 dX4_readTell_166 1 rfl ?_
            refine rw_iload_n 167 dX4_readTell_167 3 rfl ?_
            refine rn_if_eq 168 179 dX4_readTell_168 (by decide) h (fun _ h => ?_) (fun _ h => ?_)
            · refine rw_aload_n 179 dX4_readTell_179 1 rfl ?_
              refine rw_getI 180 7 9 kc7 dX4_readTell_180 (o7l ht1) (o7n ht1) fX4_93 rfl ?_
              refine rn_putI 183 7 9 kc7 dX4_readTell_183 (o7l ht1) (o7n ht1) fX4_93 (fun q hq => by cases hq; rfl) rfl rfl rfl h (fun μ12 h => ?_)
              refine rw_iload_n 186 dX4_readTell_186 3 rfl ?_
              exact rn_zret2 187 (v := false) dX4_readTell_187 rfl h
            · refine rw_aload_n 171 dX4_readTell_171 0 rfl ?_
              refine rw_iconst 172 (v := 2) dX4_readTell_172 (by decide) ?_
              refine rn_cVpi 173 4 [.int 2] dX4_readTell_173 caX4_intBehind lX4_86 inX4_intBehind slX4_intBehind rfl ly_3 ⟨_, rfl, rfl⟩ rln_3 naX4_intBehind (Nat.le_of_ble_eq_true rfl) (Nat.le_of_ble_eq_true rfl) (by decide) (fun _ hq => wX4_intBehind 2 q11.2 hq) h (fun q13 h => ?_)
              refine rw_goto 176 183 dX4_readTell_176 (by decide) ?_
              refine rn_putI 183 7 9 kc7 dX4_readTell_183 (o7l ht1) (o7n ht1) fX4_93 (fun q hq => by cases hq; rfl) rfl rfl rfl h (fun μ14 h => ?_)
              refine rw_iload_n 186 dX4_readTell_186 3 rfl ?_
              exact rn_zret2 187 (v := false) dX4_readTell_187 rfl h
          · refine rw_iconst 160 (v := 1) dX4_readTell_160 (by decide) ?_
            refine rw_goto 161 165 dX4_readTell_161 (by decide) ?_
            refine rw_istore_n 165 [(0, .ref 3), (1, .ref t1), (2, .int v2), (3, .int 1)] dX4_readTell_165 (by decide) rfl ?_
            refine rw_aload_n 166 dX4_readTell_166 1 rfl ?_
            refine rw_iload_n 167 dX4_readTell_167 3 rfl ?_
            refine rn_if_eq 168 179 dX4_readTell_168 (by decide) h (fun _ h => ?_) (fun _ h => ?_)
            · refine rw_aload_n 179 dX4_readTell_179 1 rfl ?_
              refine rw_getI 180 7 9 kc7 dX4_readTell_180 (o7l ht1) (o7n ht1) fX4_93 rfl ?_
              refine rn_putI 183 7 9 kc7 dX4_readTell_183 (o7l ht1) (o7n ht1) fX4_93 (fun q hq => by cases hq; rfl) rfl rfl rfl h (fun μ15 h => ?_)
              refine rw_iload_n 186 dX4_readTell_186 3 rfl ?_
              exact rn_zret2 187 (v := true) dX4_readTell_187 rfl h
            · refine rw_aload_n 171 dX4_readTell_171 0 rfl ?_
              refine rw_iconst 172 (v := 2) dX4_readTell_172 (by decide) ?_
              refine rn_cVpi 173 4 [.int 2] dX4_readTell_173 caX4_intBehind lX4_86 inX4_intBehind slX4_intBehind rfl ly_3 ⟨_, rfl, rfl⟩ rln_3 naX4_intBehind (Nat.le_of_ble_eq_true rfl) (Nat.le_of_ble_eq_true rfl) (by decide) (fun _ hq => wX4_intBehind 2 q11.2 hq) h (fun q16 h => ?_)
              refine rw_goto 176 183 dX4_readTell_176 (by decide) ?_
              refine rn_putI 183 7 9 kc7 dX4_readTell_183 (o7l ht1) (o7n ht1) fX4_93 (fun q hq => by cases hq; rfl) rfl rfl rfl h (fun μ17 h => ?_)
              refine rw_iload_n 186 dX4_readTell_186 3 rfl ?_
              exact rn_zret2 187 (v := true) dX4_readTell_187 rfl h
  · refine rw_aload_n 72 dX4_readTell_72 0 rfl ?_
    refine rw_iload_n 73 dX4_readTell_73 2 rfl ?_
    refine rn_cVmb 74 4 [.int v2] dX4_readTell_74 caX4_take lX4_78 inX4_take slX4_take rfl ly_3 ⟨_, rfl, rfl⟩ rln_3 naX4_take (Nat.le_of_ble_eq_true rfl) (Nat.le_of_ble_eq_true rfl) (by decide) (fun _ hq => wX4_take v2 μ hq) h (fun q18 h => ?_)
    refine rn_ifb_eq 77 103 dX4_readTell_77 (by decide) h (fun _ h => ?_) (fun _ h => ?_)
    · refine rw_iconst 103 (v := 0) dX4_readTell_103 (by decide) ?_
      refine rw_istore_n 104 [(0, .ref 3), (1, .ref t1), (2, .int v2), (3, .int 0)] dX4_readTell_104 (by decide) rfl ?_
      refine rw_aload_n 105 dX4_readTell_105 1 rfl ?_
      refine rw_iload_n 106 dX4_readTell_106 3 rfl ?_
      refine rn_if_eq 107 118 dX4_readTell_107 (by decide) h (fun _ h => ?_) (fun _ h => ?_)
      · refine rw_aload_n 118 dX4_readTell_118 1 rfl ?_
        refine rw_getI 119 7 8 kc7 dX4_readTell_119 (o7l ht1) (o7n ht1) fX4_90 rfl ?_
        refine rn_putI 122 7 8 kc7 dX4_readTell_122 (o7l ht1) (o7n ht1) fX4_90 (fun q hq => by cases hq; rfl) rfl rfl rfl h (fun μ19 h => ?_)
        refine rw_iload_n 125 dX4_readTell_125 3 rfl ?_
        exact rn_zret2 126 (v := false) dX4_readTell_126 rfl h
      · refine rw_aload_n 110 dX4_readTell_110 0 rfl ?_
        refine rw_iconst 111 (v := 2) dX4_readTell_111 (by decide) ?_
        refine rn_cVpi 112 4 [.int 2] dX4_readTell_112 caX4_intBehind lX4_86 inX4_intBehind slX4_intBehind rfl ly_3 ⟨_, rfl, rfl⟩ rln_3 naX4_intBehind (Nat.le_of_ble_eq_true rfl) (Nat.le_of_ble_eq_true rfl) (by decide) (fun _ hq => wX4_intBehind 2 q18.2 hq) h (fun q20 h => ?_)
        refine rw_goto 115 122 dX4_readTell_115 (by decide) ?_
        refine rn_putI 122 7 8 kc7 dX4_readTell_122 (o7l ht1) (o7n ht1) fX4_90 (fun q hq => by cases hq; rfl) rfl rfl rfl h (fun μ21 h => ?_)
        refine rw_iload_n 125 dX4_readTell_125 3 rfl ?_
        exact rn_zret2 126 (v := false) dX4_readTell_126 rfl h
    · refine rw_aload_n 80 dX4_readTell_80 0 rfl ?_
      refine rw_iconst 81 (v := 1) dX4_readTell_81 (by decide) ?_
      refine rw_sipush 82 (v := 999) dX4_readTell_82 (by decide) ?_
      refine rn_cVmb 85 4 [.int 1, .int 999] dX4_readTell_85 caX4_takeInt lX4_82 inX4_takeInt slX4_takeInt rfl ly_3 ⟨_, rfl, rfl⟩ rln_3 naX4_takeInt (Nat.le_of_ble_eq_true rfl) (Nat.le_of_ble_eq_true rfl) (by decide) (fun _ hq => wX4_takeInt 1 999 q18.2 hq) h (fun q22 h => ?_)
      refine rn_ifb_eq 88 103 dX4_readTell_88 (by decide) h (fun _ h => ?_) (fun _ h => ?_)
      · refine rw_iconst 103 (v := 0) dX4_readTell_103 (by decide) ?_
        refine rw_istore_n 104 [(0, .ref 3), (1, .ref t1), (2, .int v2), (3, .int 0)] dX4_readTell_104 (by decide) rfl ?_
        refine rw_aload_n 105 dX4_readTell_105 1 rfl ?_
        refine rw_iload_n 106 dX4_readTell_106 3 rfl ?_
        refine rn_if_eq 107 118 dX4_readTell_107 (by decide) h (fun _ h => ?_) (fun _ h => ?_)
        · refine rw_aload_n 118 dX4_readTell_118 1 rfl ?_
          refine rw_getI 119 7 8 kc7 dX4_readTell_119 (o7l ht1) (o7n ht1) fX4_90 rfl ?_
          refine rn_putI 122 7 8 kc7 dX4_readTell_122 (o7l ht1) (o7n ht1) fX4_90 (fun q hq => by cases hq; rfl) rfl rfl rfl h (fun μ23 h => ?_)
          refine rw_iload_n 125 dX4_readTell_125 3 rfl ?_
          exact rn_zret2 126 (v := false) dX4_readTell_126 rfl h
        · refine rw_aload_n 110 dX4_readTell_110 0 rfl ?_
          refine rw_iconst 111 (v := 2) dX4_readTell_111 (by decide) ?_
          refine rn_cVpi 112 4 [.int 2] dX4_readTell_112 caX4_intBehind lX4_86 inX4_intBehind slX4_intBehind rfl ly_3 ⟨_, rfl, rfl⟩ rln_3 naX4_intBehind (Nat.le_of_ble_eq_true rfl) (Nat.le_of_ble_eq_true rfl) (by decide) (fun _ hq => wX4_intBehind 2 q22.2 hq) h (fun q24 h => ?_)
          refine rw_goto 115 122 dX4_readTell_115 (by decide) ?_
          refine rn_putI 122 7 8 kc7 dX4_readTell_122 (o7l ht1) (o7n ht1) fX4_90 (fun q hq => by cases hq; rfl) rfl rfl rfl h (fun μ25 h => ?_)
          refine rw_iload_n 125 dX4_readTell_125 3 rfl ?_
          exact rn_zret2 126 (v := false) dX4_readTell_126 rfl h
      · refine rw_aload_n 91 dX4_readTell_91 0 rfl ?_
        refine rw_iconst 92 (v := 4) dX4_readTell_92 (by decide) ?_
        refine rn_cVmb 93 4 [.int 4] dX4_readTell_93 caX4_take lX4_78 inX4_take slX4_take rfl ly_3 ⟨_, rfl, rfl⟩ rln_3 naX4_take (Nat.le_of_ble_eq_true rfl) (Nat.le_of_ble_eq_true rfl) (by decide) (fun _ hq => wX4_take 4 q22.2 hq) h (fun q26 h => ?_)
        refine rn_ifb_eq 96 103 dX4_readTell_96 (by decide) h (fun _ h => ?_) (fun _ h => ?_)
        · refine rw_iconst 103 (v := 0) dX4_readTell_103 (by decide) ?_
          refine rw_istore_n 104 [(0, .ref 3), (1, .ref t1), (2, .int v2), (3, .int 0)] dX4_readTell_104 (by decide) rfl ?_
          refine rw_aload_n 105 dX4_readTell_105 1 rfl ?_
          refine rw_iload_n 106 dX4_readTell_106 3 rfl ?_
          refine rn_if_eq 107 118 dX4_readTell_107 (by decide) h (fun _ h => ?_) (fun _ h => ?_)
          · refine rw_aload_n 118 dX4_readTell_118 1 rfl ?_
            refine rw_getI 119 7 8 kc7 dX4_readTell_119 (o7l ht1) (o7n ht1) fX4_90 rfl ?_
            refine rn_putI 122 7 8 kc7 dX4_readTell_122 (o7l ht1) (o7n ht1) fX4_90 (fun q hq => by cases hq; rfl) rfl rfl rfl h (fun μ27 h => ?_)
            refine rw_iload_n 125 dX4_readTell_125 3 rfl ?_
            exact rn_zret2 126 (v := false) dX4_readTell_126 rfl h
          · refine rw_aload_n 110 dX4_readTell_110 0 rfl ?_
            refine rw_iconst 111 (v := 2) dX4_readTell_111 (by decide) ?_
            refine rn_cVpi 112 4 [.int 2] dX4_readTell_112 caX4_intBehind lX4_86 inX4_intBehind slX4_intBehind rfl ly_3 ⟨_, rfl, rfl⟩ rln_3 naX4_intBehind (Nat.le_of_ble_eq_true rfl) (Nat.le_of_ble_eq_true rfl) (by decide) (fun _ hq => wX4_intBehind 2 q26.2 hq) h (fun q28 h => ?_)
            refine rw_goto 115 122 dX4_readTell_115 (by decide) ?_
            refine rn_putI 122 7 8 kc7 dX4_readTell_122 (o7l ht1) (o7n ht1) fX4_90 (fun q hq => by cases hq; rfl) rfl rfl rfl h (fun μ29 h => ?_)
            refine rw_iload_n 125 dX4_readTell_125 3 rfl ?_
            exact rn_zret2 126 (v := false) dX4_readTell_126 rfl h
        · refine rw_iconst 99 (v := 1) dX4_readTell_99 (by decide) ?_
          refine rw_goto 100 104 dX4_readTell_100 (by decide) ?_
          refine rw_istore_n 104 [(0, .ref 3), (1, .ref t1), (2, .int v2), (3, .int 1)] dX4_readTell_104 (by decide) rfl ?_
          refine rw_aload_n 105 dX4_readTell_105 1 rfl ?_
          refine rw_iload_n 106 dX4_readTell_106 3 rfl ?_
          refine rn_if_eq 107 118 dX4_readTell_107 (by decide) h (fun _ h => ?_) (fun _ h => ?_)
          · refine rw_aload_n 118 dX4_readTell_118 1 rfl ?_
            refine rw_getI 119 7 8 kc7 dX4_readTell_119 (o7l ht1) (o7n ht1) fX4_90 rfl ?_
            refine rn_putI 122 7 8 kc7 dX4_readTell_122 (o7l ht1) (o7n ht1) fX4_90 (fun q hq => by cases hq; rfl) rfl rfl rfl h (fun μ30 h => ?_)
            refine rw_iload_n 125 dX4_readTell_125 3 rfl ?_
            exact rn_zret2 126 (v := true) dX4_readTell_126 rfl h
          · refine rw_aload_n 110 dX4_readTell_110 0 rfl ?_
            refine rw_iconst 111 (v := 2) dX4_readTell_111 (by decide) ?_
            refine rn_cVpi 112 4 [.int 2] dX4_readTell_112 caX4_intBehind lX4_86 inX4_intBehind slX4_intBehind rfl ly_3 ⟨_, rfl, rfl⟩ rln_3 naX4_intBehind (Nat.le_of_ble_eq_true rfl) (Nat.le_of_ble_eq_true rfl) (by decide) (fun _ hq => wX4_intBehind 2 q26.2 hq) h (fun q31 h => ?_)
            refine rw_goto 115 122 dX4_readTell_115 (by decide) ?_
            refine rn_putI 122 7 8 kc7 dX4_readTell_122 (o7l ht1) (o7n ht1) fX4_90 (fun q hq => by cases hq; rfl) rfl rfl rfl h (fun μ32 h => ?_)
            refine rw_iload_n 125 dX4_readTell_125 3 rfl ?_
            exact rn_zret2 126 (v := true) dX4_readTell_126 rfl h
set_option maxRecDepth 100000 in
theorem wX4_readTell (t1 : Nat) (ht1 : okX7 Rf0 NF t1) (μ : Mem) {res : Bool × Mem} (h : fX4_readTell t1 μ = some res) : Ct mX4_readTell 62 NF NF [.ref 3, .ref t1] (μ, Rf0, NF) (QN (some (.int (b2i res.1))) res.2 Rf0 NF) := by
  unfold fX4_readTell at h
  show RW mX4_readTell 62 NF NF 0 [(0, .ref 3), (1, .ref t1)] [] (μ, Rf0, NF) (QN (some (.int (b2i res.1))) res.2 Rf0 NF)
  refine rw_aload_n 0 dX4_readTell_0 0 rfl ?_
  refine rn_cVpi 1 4 [] dX4_readTell_1 caX4_kind lX4_43 inX4_kind slX4_kind rfl ly_3 ⟨_, rfl, rfl⟩ rln_3 naX4_kind (Nat.le_of_ble_eq_true rfl) (Nat.le_of_ble_eq_true rfl) (by decide) (fun _ hq => wX4_kind μ hq) h (fun q1 h => ?_)
  refine rw_istore_n 4 [(0, .ref 3), (1, .ref t1), (2, .int q1)] dX4_readTell_4 (by decide) rfl ?_
  refine rw_iload_n 5 dX4_readTell_5 2 rfl ?_
  refine rw_bipush 6 (v := 13) dX4_readTell_6 (by decide) ?_
  refine rn_icmp_ne 8 17 dX4_readTell_8 (by decide) h (fun _ h => ?_) (fun _ h => ?_)
  · refine rw_iload_n 17 dX4_readTell_17 2 rfl ?_
    refine rw_bipush 18 (v := 14) dX4_readTell_18 (by decide) ?_
    refine rn_icmp_ne 20 29 dX4_readTell_20 (by decide) h (fun _ h => ?_) (fun _ h => ?_)
    · refine rw_iload_n 29 dX4_readTell_29 2 rfl ?_
      refine rw_bipush 30 (v := 15) dX4_readTell_30 (by decide) ?_
      refine rn_icmp_ne 32 41 dX4_readTell_32 (by decide) h (fun _ h => ?_) (fun _ h => ?_)
      · refine rw_iload_n 41 dX4_readTell_41 2 rfl ?_
        refine rw_bipush 42 (v := 16) dX4_readTell_42 (by decide) ?_
        refine rn_icmp_lt 44 66 dX4_readTell_44 (by decide) h (fun _ h => ?_) (fun _ h => ?_)
        · exact wX4_readTell_j66 t1 ht1 q1 μ h
        · refine rw_iload_n 47 dX4_readTell_47 2 rfl ?_
          refine rw_bipush 48 (v := 19) dX4_readTell_48 (by decide) ?_
          refine rn_icmp_gt 50 66 dX4_readTell_50 (by decide) h (fun _ h => ?_) (fun _ h => ?_)
          · exact wX4_readTell_j66 t1 ht1 q1 μ h
          · refine rw_aload_n 53 dX4_readTell_53 0 rfl ?_
            refine rw_aload_n 54 dX4_readTell_54 1 rfl ?_
            refine rw_getR 55 7 10 kc7 dX4_readTell_55 (o7l ht1) (o7n ht1) fX4_70 rfl (o7r10 ht1) ?_
            refine rw_iload_n 58 dX4_readTell_58 2 rfl ?_
            refine rw_bipush 59 (v := 16) dX4_readTell_59 (by decide) ?_
            refine rw_isub 61 dX4_readTell_61 ?_
            refine rn_cVmb 62 4 [.ref (t1 + 6), .int (q1 - 16)] dX4_readTell_62 caX4_readLaw lX4_74 inX4_readLaw slX4_readLaw rfl ly_3 ⟨_, rfl, rfl⟩ rln_3 naX4_readLaw (Nat.le_of_ble_eq_true rfl) (Nat.le_of_ble_eq_true rfl) (by decide) (fun _ hq => wX4_readLaw (t1 + 6) (o7k10 ht1) (q1 - 16) μ hq) h (fun q33 h => ?_)
            exact rn_zret2 65 (v := q33.1) dX4_readTell_65 rfl h
      · refine rw_aload_n 35 dX4_readTell_35 0 rfl ?_
        refine rw_aload_n 36 dX4_readTell_36 1 rfl ?_
        refine rn_cVmb 37 4 [.ref t1] dX4_readTell_37 caX4_readFoes lX4_67 inX4_readFoes slX4_readFoes rfl ly_3 ⟨_, rfl, rfl⟩ rln_3 naX4_readFoes (Nat.le_of_ble_eq_true rfl) (Nat.le_of_ble_eq_true rfl) (by decide) (fun _ hq => wX4_readFoes t1 ht1 μ hq) h (fun q34 h => ?_)
        exact rn_zret2 40 (v := q34.1) dX4_readTell_40 rfl h
    · refine rw_aload_n 23 dX4_readTell_23 0 rfl ?_
      refine rw_aload_n 24 dX4_readTell_24 1 rfl ?_
      refine rn_cVmb 25 4 [.ref t1] dX4_readTell_25 caX4_readGuest lX4_64 inX4_readGuest slX4_readGuest rfl ly_3 ⟨_, rfl, rfl⟩ rln_3 naX4_readGuest (Nat.le_of_ble_eq_true rfl) (Nat.le_of_ble_eq_true rfl) (by decide) (fun _ hq => wX4_readGuest t1 ht1 μ hq) h (fun q35 h => ?_)
      exact rn_zret2 28 (v := q35.1) dX4_readTell_28 rfl h
  · refine rw_aload_n 11 dX4_readTell_11 0 rfl ?_
    refine rw_aload_n 12 dX4_readTell_12 1 rfl ?_
    refine rn_cVmb 13 4 [.ref t1] dX4_readTell_13 caX4_readSunday lX4_61 inX4_readSunday slX4_readSunday rfl ly_3 ⟨_, rfl, rfl⟩ rln_3 naX4_readSunday (Nat.le_of_ble_eq_true rfl) (Nat.le_of_ble_eq_true rfl) (by decide) (fun _ hq => wX4_readSunday t1 ht1 μ hq) h (fun q36 h => ?_)
    exact rn_zret2 16 (v := q36.1) dX4_readTell_16 rfl h
def fX4_readTape_37 (t2 : Nat)    (K : Int32 → Mem → Option (Mem)) : Nat → Int32 → Int32 → Mem → Option (Mem)
  | 0, _, _, _ => none
  | n + 1, v3, v4, μ =>
    if 400 < v4 then
      K v3 μ
    else
      if v3 = 0 then
        K v3 μ
      else
        (fX4_kind μ).bind fun q7 =>
        if q7 = 0 then
          K v3 μ
        else
          (fX4_readTell t2 μ).bind fun q8 =>
          fX4_readTape_37 t2 K n (b2i q8.1) (v4 + 1) q8.2
def fX4_readTape_j68 (t2 : Nat)   (v3 : Int32) (μ : Mem) : Option (Mem) :=
  if v3 = 0 then
    if inb (μ.1 3 3) 402 then
    nm (wI μ 3 1 (μ.1 6 (μ.1 3 3).toNatClampNeg)) fun μ11 =>
    if (μ11.1 3 0) = 0 then
      (fX7_findClashes t2 μ11).bind fun q12 =>
      some q12
    else
      some μ11
    else none
  else
    nm (wI μ 3 0 (μ.1 3 4)) fun μ13 =>
    nm (wI μ13 3 1 (μ13.1 3 5)) fun μ14 =>
    if (μ14.1 3 0) = 0 then
      (fX7_findClashes t2 μ14).bind fun q15 =>
      some q15
    else
      some μ14
def fX4_readTape (t2 : Nat) (μ : Mem) : Option (Mem) :=
  nm (wI μ 3 0 0) fun μ1 =>
  nm (wI μ1 3 4 0) fun μ2 =>
  nm (wI μ2 3 5 (-1)) fun μ3 =>
  nm (wI μ3 3 3 0) fun μ4 =>
  (fX7_begin t2 μ4).bind fun q5 =>
  (fX8_cut q5).bind fun q6 =>
  fX4_readTape_37 t2 (fun y9 μ10 =>
      fX4_readTape_j68 t2 y9 μ10
  ) FU 1 0 q6
set_option maxRecDepth 100000 in
theorem wX4_readTape_37 (t2 : Nat) (ht2 : okX7 Rf0 NF t2)    (K : Int32 → Mem → Option (Mem)) {res : Mem} (hK : ∀ (v3 : Int32) (μ : Mem), K v3 μ = some res → RW mX4_readTape 63 NF NF 68 [(0, .ref 3), (2, .ref t2), (3, .int v3)] [] (μ, Rf0, NF) (QN none res Rf0 NF)) : ∀ (n9 : Nat) (v3 : Int32) (v4 : Int32) (μ : Mem), fX4_readTape_37 t2 K n9 v3 v4 μ = some res → RW mX4_readTape 63 NF NF 37 [(0, .ref 3), (2, .ref t2), (3, .int v3), (4, .int v4)] [] (μ, Rf0, NF) (QN none res Rf0 NF) := by
  intro n9
  induction n9 with
  | zero => intro _ _ _ h; cases h
  | succ n ih =>
    intro v3 v4 μ h
    unfold fX4_readTape_37 at h
    refine rw_iload 37 dX4_readTape_37 3 rfl ?_
    refine rw_sipush 39 (v := 400) dX4_readTape_39 (by decide) ?_
    refine rn_icmp_gt 42 68 dX4_readTape_42 (by decide) h (fun _ h => ?_) (fun _ h => ?_)
    · refine rw_pick 68 [0, 1, 2] rfl ?_
      exact hK v3 μ h
    · refine rw_iload_n 45 dX4_readTape_45 2 rfl ?_
      refine rn_if_eq 46 68 dX4_readTape_46 (by decide) h (fun _ h => ?_) (fun _ h => ?_)
      · refine rw_pick 68 [0, 1, 2] rfl ?_
        exact hK v3 μ h
      · refine rw_aload_n 49 dX4_readTape_49 0 rfl ?_
        refine rn_cVpi 50 4 [] dX4_readTape_50 caX4_kind lX4_43 inX4_kind slX4_kind rfl ly_3 ⟨_, rfl, rfl⟩ rln_3 naX4_kind (Nat.le_of_ble_eq_true rfl) (Nat.le_of_ble_eq_true rfl) (by decide) (fun _ hq => wX4_kind μ hq) h (fun q7 h => ?_)
        refine rn_if_eq 53 68 dX4_readTape_53 (by decide) h (fun _ h => ?_) (fun _ h => ?_)
        · refine rw_pick 68 [0, 1, 2] rfl ?_
          exact hK v3 μ h
        · refine rw_aload_n 56 dX4_readTape_56 0 rfl ?_
          refine rw_aload_n 57 dX4_readTape_57 1 rfl ?_
          refine rn_cVmb 58 4 [.ref t2] dX4_readTape_58 caX4_readTell lX4_47 inX4_readTell slX4_readTell rfl ly_3 ⟨_, rfl, rfl⟩ rln_3 naX4_readTell (Nat.le_of_ble_eq_true rfl) (Nat.le_of_ble_eq_true rfl) (by decide) (fun _ hq => wX4_readTell t2 ht2 μ hq) h (fun q8 h => ?_)
          refine rw_istore_n 61 [(0, .ref 3), (2, .ref t2), (3, .int (b2i q8.1)), (4, .int v4)] dX4_readTape_61 (by decide) rfl ?_
          refine rw_iinc 62 [(0, .ref 3), (2, .ref t2), (3, .int (b2i q8.1)), (4, .int (v4 + 1))] dX4_readTape_62 3 rfl rfl (by decide) rfl ?_
          refine rw_goto 65 37 dX4_readTape_65 (by decide) ?_
          exact ih (b2i q8.1) (v4 + 1) q8.2 h
set_option maxRecDepth 100000 in
theorem wX4_readTape_j68 (t2 : Nat) (ht2 : okX7 Rf0 NF t2)  {res : Mem} (v3 : Int32) (μ : Mem)  (h : fX4_readTape_j68 t2 v3 μ = some res) : RW mX4_readTape 63 NF NF 68 [(0, .ref 3), (2, .ref t2), (3, .int v3)] [] (μ, Rf0, NF) (QN none res Rf0 NF) := by
  unfold fX4_readTape_j68 at h
  refine rw_iload_n 68 dX4_readTape_68 2 rfl ?_
  refine rn_if_eq 69 91 dX4_readTape_69 (by decide) h (fun _ h => ?_) (fun _ h => ?_)
  · refine rw_aload_n 91 dX4_readTape_91 0 rfl ?_
    refine rw_aload_n 92 dX4_readTape_92 0 rfl ?_
    refine rw_getR 93 4 2 kc4 dX4_readTape_93 ly_3 rln_3 fX4_21 rfl rf_3_2 ?_
    refine rw_getR 96 8 1 kc8 dX4_readTape_96 ly_4 rln_4 fX4_51 rfl rf_4_1 ?_
    refine rw_aload_n 99 dX4_readTape_99 0 rfl ?_
    refine rw_getI 100 4 3 kc4 dX4_readTape_100 ly_3 rln_3 fX4_25 rfl ?_
    refine rn_iald 103 dX4_readTape_103 ly_6 rln_6 h (fun h => ?_)
    refine rn_putI 104 4 1 kc4 dX4_readTape_104 ly_3 rln_3 fX4_15 (fun q hq => by cases hq; rfl) rfl rfl rfl h (fun μ11 h => ?_)
    refine rw_aload_n 107 dX4_readTape_107 0 rfl ?_
    refine rw_getI 108 4 0 kc4 dX4_readTape_108 ly_3 rln_3 fX4_9 rfl ?_
    refine rn_if_ne 111 118 dX4_readTape_111 (by decide) h (fun _ h => ?_) (fun _ h => ?_)
    · exact rn_vret 118 dX4_readTape_118 rfl h
    · refine rw_aload_n 114 dX4_readTape_114 1 rfl ?_
      refine rn_cVmv 115 7 [] dX4_readTape_115 caX7_findClashes lX4_55 inX7_findClashes slX7_findClashes rfl (o7l ht2) ⟨_, rfl, rfl⟩ (o7n ht2) naX7_findClashes (Nat.le_of_ble_eq_true rfl) (Nat.le_of_ble_eq_true rfl) (by decide) (fun _ hq => wX7_findClashes t2 ht2 μ11 hq) h (fun q12 h => ?_)
      exact rn_vret 118 dX4_readTape_118 rfl h
  · refine rw_aload_n 72 dX4_readTape_72 0 rfl ?_
    refine rw_aload_n 73 dX4_readTape_73 0 rfl ?_
    refine rw_getI 74 4 4 kc4 dX4_readTape_74 ly_3 rln_3 fX4_28 rfl ?_
    refine rn_putI 77 4 0 kc4 dX4_readTape_77 ly_3 rln_3 fX4_9 (fun q hq => by cases hq; rfl) rfl rfl rfl h (fun μ13 h => ?_)
    refine rw_aload_n 80 dX4_readTape_80 0 rfl ?_
    refine rw_aload_n 81 dX4_readTape_81 0 rfl ?_
    refine rw_getI 82 4 5 kc4 dX4_readTape_82 ly_3 rln_3 fX4_31 rfl ?_
    refine rn_putI 85 4 1 kc4 dX4_readTape_85 ly_3 rln_3 fX4_15 (fun q hq => by cases hq; rfl) rfl rfl rfl h (fun μ14 h => ?_)
    refine rw_goto 88 107 dX4_readTape_88 (by decide) ?_
    refine rw_aload_n 107 dX4_readTape_107 0 rfl ?_
    refine rw_getI 108 4 0 kc4 dX4_readTape_108 ly_3 rln_3 fX4_9 rfl ?_
    refine rn_if_ne 111 118 dX4_readTape_111 (by decide) h (fun _ h => ?_) (fun _ h => ?_)
    · exact rn_vret 118 dX4_readTape_118 rfl h
    · refine rw_aload_n 114 dX4_readTape_114 1 rfl ?_
      refine rn_cVmv 115 7 [] dX4_readTape_115 caX7_findClashes lX4_55 inX7_findClashes slX7_findClashes rfl (o7l ht2) ⟨_, rfl, rfl⟩ (o7n ht2) naX7_findClashes (Nat.le_of_ble_eq_true rfl) (Nat.le_of_ble_eq_true rfl) (by decide) (fun _ hq => wX7_findClashes t2 ht2 μ14 hq) h (fun q15 h => ?_)
      exact rn_vret 118 dX4_readTape_118 rfl h
set_option maxRecDepth 100000 in
theorem wX4_readTape (t2 : Nat) (ht2 : okX7 Rf0 NF t2) (μ : Mem) {res : Mem} (h : fX4_readTape t2 μ = some res) : Ct mX4_readTape 63 NF NF [.ref 3, .ref 1, .ref t2] (μ, Rf0, NF) (QN none res Rf0 NF) := by
  unfold fX4_readTape at h
  show RW mX4_readTape 63 NF NF 0 [(0, .ref 3), (1, .ref 1), (2, .ref t2)] [] (μ, Rf0, NF) (QN none res Rf0 NF)
  refine rw_aload_n 0 dX4_readTape_0 0 rfl ?_
  refine rw_iconst 1 (v := 0) dX4_readTape_1 (by decide) ?_
  refine rn_putI 2 4 0 kc4 dX4_readTape_2 ly_3 rln_3 fX4_9 (fun q hq => by cases hq; rfl) rfl rfl rfl h (fun μ1 h => ?_)
  refine rw_aload_n 5 dX4_readTape_5 0 rfl ?_
  refine rw_iconst 6 (v := 0) dX4_readTape_6 (by decide) ?_
  refine rn_putI 7 4 4 kc4 dX4_readTape_7 ly_3 rln_3 fX4_28 (fun q hq => by cases hq; rfl) rfl rfl rfl h (fun μ2 h => ?_)
  refine rw_aload_n 10 dX4_readTape_10 0 rfl ?_
  refine rw_iconst 11 (v := -1) dX4_readTape_11 (by decide) ?_
  refine rn_putI 12 4 5 kc4 dX4_readTape_12 ly_3 rln_3 fX4_31 (fun q hq => by cases hq; rfl) rfl rfl rfl h (fun μ3 h => ?_)
  refine rw_aload_n 15 dX4_readTape_15 0 rfl ?_
  refine rw_iconst 16 (v := 0) dX4_readTape_16 (by decide) ?_
  refine rn_putI 17 4 3 kc4 dX4_readTape_17 ly_3 rln_3 fX4_25 (fun q hq => by cases hq; rfl) rfl rfl rfl h (fun μ4 h => ?_)
  refine rw_aload_n 20 dX4_readTape_20 2 rfl ?_
  refine rn_cVmv 21 7 [] dX4_readTape_21 caX7_begin lX4_34 inX7_begin slX7_begin rfl (o7l ht2) ⟨_, rfl, rfl⟩ (o7n ht2) naX7_begin (Nat.le_of_ble_eq_true rfl) (Nat.le_of_ble_eq_true rfl) (by decide) (fun _ hq => wX7_begin t2 ht2 μ4 hq) h (fun q5 h => ?_)
  refine rw_aload_n 24 dX4_readTape_24 0 rfl ?_
  refine rw_getR 25 4 2 kc4 dX4_readTape_25 ly_3 rln_3 fX4_21 rfl rf_3_2 ?_
  refine rw_aload_n 28 dX4_readTape_28 1 rfl ?_
  refine rn_cVmv 29 8 [.ref 1] dX4_readTape_29 caX8_cut lX4_39 inX8_cut slX8_cut rfl ly_4 ⟨_, rfl, rfl⟩ rln_4 naX8_cut (Nat.le_of_ble_eq_true rfl) (Nat.le_of_ble_eq_true rfl) (by decide) (fun _ hq => wX8_cut q5 hq) h (fun q6 h => ?_)
  refine rw_iconst 32 (v := 1) dX4_readTape_32 (by decide) ?_
  refine rw_istore_n 33 [(0, .ref 3), (1, .ref 1), (2, .ref t2), (3, .int 1)] dX4_readTape_33 (by decide) rfl ?_
  refine rw_iconst 34 (v := 0) dX4_readTape_34 (by decide) ?_
  refine rw_istore 35 [(0, .ref 3), (1, .ref 1), (2, .ref t2), (3, .int 1), (4, .int 0)] dX4_readTape_35 (by decide) rfl ?_
  refine rw_pick 37 [0, 2, 3, 4] rfl ?_
  refine wX4_readTape_37 t2 ht2 _ (fun y9 μ10 h => ?_) FU 1 0 q6 h
  exact wX4_readTape_j68 t2 ht2 y9 μ10 h
def fX5_begin_22 (t0 : Nat)    (K : Mem → Option (Mem)) : Nat → Int32 → Mem → Option (Mem)
  | 0, _, _ => none
  | n + 1, v1, μ =>
    if v1 < 4 then
      if inb v1 4 then nm (wI μ (t0 + 1) v1.toNatClampNeg 0) fun μ5 =>
      if inb v1 4 then nm (wI μ5 (t0 + 2) v1.toNatClampNeg 0) fun μ6 =>
      fX5_begin_22 t0 K n (v1 + 1) μ6
      else none
      else none
    else
      K μ
def fX5_begin_49 (t0 : Nat)    (K : Mem → Option (Mem)) : Nat → Int32 → Mem → Option (Mem)
  | 0, _, _ => none
  | n + 1, v1, μ =>
    if v1 < 7 then
      if inb v1 7 then nm (wI μ (t0 + 3) v1.toNatClampNeg 0) fun μ8 =>
      fX5_begin_49 t0 K n (v1 + 1) μ8
      else none
    else
      K μ
def fX5_begin (t0 : Nat) (μ : Mem) : Option (Mem) :=
  nm (wI μ t0 0 0) fun μ1 =>
  nm (wI μ1 t0 1 0) fun μ2 =>
  nm (wI μ2 t0 2 0) fun μ3 =>
  nm (wI μ3 t0 3 0) fun μ4 =>
  fX5_begin_22 t0 (fun μ7 =>
      fX5_begin_49 t0 (fun μ9 =>
          some μ9
      ) FU 0 μ7
  ) FU 0 μ4
set_option maxRecDepth 100000 in
theorem wX5_begin_22 {Rf : Nat → Nat → Option Nat} {nn : Nat} (t0 : Nat) (ht0 : okX5 Rf nn t0)    (K : Mem → Option (Mem)) {res : Mem} (hK : ∀  (μ : Mem), K μ = some res → RW mX5_begin 1 nn nn 47 [(0, .ref t0)] [] (μ, Rf, nn) (QN none res Rf nn)) : ∀ (n9 : Nat) (v1 : Int32) (μ : Mem), fX5_begin_22 t0 K n9 v1 μ = some res → RW mX5_begin 1 nn nn 22 [(0, .ref t0), (1, .int v1)] [] (μ, Rf, nn) (QN none res Rf nn) := by
  intro n9
  induction n9 with
  | zero => intro _ _ h; cases h
  | succ n ih =>
    intro v1 μ h
    unfold fX5_begin_22 at h
    refine rw_iload_n 22 dX5_begin_22 1 rfl ?_
    refine rw_iconst 23 (v := 4) dX5_begin_23 (by decide) ?_
    refine rn_icmp_ge 24 47 dX5_begin_24 (by decide) h (fun _ h => ?_) (fun _ h => ?_)
    · refine rw_pick 47 [0] rfl ?_
      exact hK μ h
    · refine rw_aload_n 27 dX5_begin_27 0 rfl ?_
      refine rw_getR 28 5 4 kc5 dX5_begin_28 (o5l ht0) (o5n ht0) fX5_24 rfl (o5r4 ht0) ?_
      refine rw_iload_n 31 dX5_begin_31 1 rfl ?_
      refine rw_iconst 32 (v := 0) dX5_begin_32 (by decide) ?_
      refine rn_iast 33 dX5_begin_33 (o5l4 ht0) (o5n4 ht0) h (fun μ5 h => ?_)
      refine rw_aload_n 34 dX5_begin_34 0 rfl ?_
      refine rw_getR 35 5 5 kc5 dX5_begin_35 (o5l ht0) (o5n ht0) fX5_28 rfl (o5r5 ht0) ?_
      refine rw_iload_n 38 dX5_begin_38 1 rfl ?_
      refine rw_iconst 39 (v := 0) dX5_begin_39 (by decide) ?_
      refine rn_iast 40 dX5_begin_40 (o5l5 ht0) (o5n5 ht0) h (fun μ6 h => ?_)
      refine rw_iinc 41 [(0, .ref t0), (1, .int (v1 + 1))] dX5_begin_41 1 rfl rfl (by decide) rfl ?_
      refine rw_goto 44 22 dX5_begin_44 (by decide) ?_
      exact ih (v1 + 1) μ6 h
set_option maxRecDepth 100000 in
theorem wX5_begin_49 {Rf : Nat → Nat → Option Nat} {nn : Nat} (t0 : Nat) (ht0 : okX5 Rf nn t0)    (K : Mem → Option (Mem)) {res : Mem} (hK : ∀  (μ : Mem), K μ = some res → RW mX5_begin 1 nn nn 68 [] [] (μ, Rf, nn) (QN none res Rf nn)) : ∀ (n9 : Nat) (v1 : Int32) (μ : Mem), fX5_begin_49 t0 K n9 v1 μ = some res → RW mX5_begin 1 nn nn 49 [(0, .ref t0), (1, .int v1)] [] (μ, Rf, nn) (QN none res Rf nn) := by
  intro n9
  induction n9 with
  | zero => intro _ _ h; cases h
  | succ n ih =>
    intro v1 μ h
    unfold fX5_begin_49 at h
    refine rw_iload_n 49 dX5_begin_49 1 rfl ?_
    refine rw_bipush 50 (v := 7) dX5_begin_50 (by decide) ?_
    refine rn_icmp_ge 52 68 dX5_begin_52 (by decide) h (fun _ h => ?_) (fun _ h => ?_)
    · refine rw_pick 68 [] rfl ?_
      exact hK μ h
    · refine rw_aload_n 55 dX5_begin_55 0 rfl ?_
      refine rw_getR 56 5 6 kc5 dX5_begin_56 (o5l ht0) (o5n ht0) fX5_31 rfl (o5r6 ht0) ?_
      refine rw_iload_n 59 dX5_begin_59 1 rfl ?_
      refine rw_iconst 60 (v := 0) dX5_begin_60 (by decide) ?_
      refine rn_iast 61 dX5_begin_61 (o5l6 ht0) (o5n6 ht0) h (fun μ8 h => ?_)
      refine rw_iinc 62 [(0, .ref t0), (1, .int (v1 + 1))] dX5_begin_62 1 rfl rfl (by decide) rfl ?_
      refine rw_goto 65 49 dX5_begin_65 (by decide) ?_
      exact ih (v1 + 1) μ8 h
set_option maxRecDepth 100000 in
theorem wX5_begin {Rf : Nat → Nat → Option Nat} {nn : Nat} (t0 : Nat) (ht0 : okX5 Rf nn t0) (μ : Mem) {res : Mem} (h : fX5_begin t0 μ = some res) : Ct mX5_begin 1 nn nn [.ref t0] (μ, Rf, nn) (QN none res Rf nn) := by
  unfold fX5_begin at h
  show RW mX5_begin 1 nn nn 0 [(0, .ref t0)] [] (μ, Rf, nn) (QN none res Rf nn)
  refine rw_aload_n 0 dX5_begin_0 0 rfl ?_
  refine rw_iconst 1 (v := 0) dX5_begin_1 (by decide) ?_
  refine rn_putI 2 5 0 kc5 dX5_begin_2 (o5l ht0) (o5n ht0) fX5_9 (fun q hq => by cases hq; rfl) rfl rfl rfl h (fun μ1 h => ?_)
  refine rw_aload_n 5 dX5_begin_5 0 rfl ?_
  refine rw_iconst 6 (v := 0) dX5_begin_6 (by decide) ?_
  refine rn_putI 7 5 1 kc5 dX5_begin_7 (o5l ht0) (o5n ht0) fX5_15 (fun q hq => by cases hq; rfl) rfl rfl rfl h (fun μ2 h => ?_)
  refine rw_aload_n 10 dX5_begin_10 0 rfl ?_
  refine rw_iconst 11 (v := 0) dX5_begin_11 (by decide) ?_
  refine rn_putI 12 5 2 kc5 dX5_begin_12 (o5l ht0) (o5n ht0) fX5_18 (fun q hq => by cases hq; rfl) rfl rfl rfl h (fun μ3 h => ?_)
  refine rw_aload_n 15 dX5_begin_15 0 rfl ?_
  refine rw_iconst 16 (v := 0) dX5_begin_16 (by decide) ?_
  refine rn_putI 17 5 3 kc5 dX5_begin_17 (o5l ht0) (o5n ht0) fX5_21 (fun q hq => by cases hq; rfl) rfl rfl rfl h (fun μ4 h => ?_)
  refine rw_iconst 20 (v := 0) dX5_begin_20 (by decide) ?_
  refine rw_istore_n 21 [(0, .ref t0), (1, .int 0)] dX5_begin_21 (by decide) rfl ?_
  refine wX5_begin_22 t0 ht0 _ (fun μ7 h => ?_) FU 0 μ4 h
  refine rw_iconst 47 (v := 0) dX5_begin_47 (by decide) ?_
  refine rw_istore_n 48 [(0, .ref t0), (1, .int 0)] dX5_begin_48 (by decide) rfl ?_
  refine wX5_begin_49 t0 ht0 _ (fun μ9 h => ?_) FU 0 μ7 h
  exact rn_vret 68 dX5_begin_68 rfl h
def fX10_place  (μ : Mem) : Option (Int32) :=
  some (μ.1 3 1)
set_option maxRecDepth 100000 in
theorem wX10_place  (μ : Mem) {res : Int32} (h : fX10_place  μ = some res) : Ct mX10_place 1 NF NF [.ref 0] (μ, Rf0, NF) (QN (some (.int res)) μ Rf0 NF) := by
  unfold fX10_place at h
  show RW mX10_place 1 NF NF 0 [(0, .ref 0)] [] (μ, Rf0, NF) (QN (some (.int res)) μ Rf0 NF)
  refine rw_aload_n 0 dX10_place_0 0 rfl ?_
  refine rw_getR 1 10 1 kc10 dX10_place_1 ly_0 rln_0 fX10_19 rfl rf_0_1 ?_
  refine rw_getI 4 4 1 kc4 dX10_place_4 ly_3 rln_3 fX10_104 rfl ?_
  exact rn_iret 7 dX10_place_7 rfl h
def fX10_isSunday (a1 : Int32) (μ : Mem) : Option (Bool) :=
  if a1 < 0 then
    some false
  else
    if a1 < (μ.1 199 0) then
      some true
    else
      some false
set_option maxRecDepth 100000 in
theorem wX10_isSunday (a1 : Int32) (μ : Mem) {res : Bool} (h : fX10_isSunday a1 μ = some res) : Ct mX10_isSunday 1 NF NF [.ref 0, .int a1] (μ, Rf0, NF) (QN (some (.int (b2i res))) μ Rf0 NF) := by
  unfold fX10_isSunday at h
  show RW mX10_isSunday 1 NF NF 0 [(0, .ref 0), (1, .int a1)] [] (μ, Rf0, NF) (QN (some (.int (b2i res))) μ Rf0 NF)
  refine rw_iload_n 0 dX10_isSunday_0 1 rfl ?_
  refine rn_if_lt 1 19 dX10_isSunday_1 (by decide) h (fun _ h => ?_) (fun _ h => ?_)
  · refine rw_iconst 19 (v := 0) dX10_isSunday_19 (by decide) ?_
    exact rn_zret 20 (v := false) dX10_isSunday_20 rfl h
  · refine rw_iload_n 4 dX10_isSunday_4 1 rfl ?_
    refine rw_aload_n 5 dX10_isSunday_5 0 rfl ?_
    refine rw_getR 6 10 9 kc10 dX10_isSunday_6 ly_0 rln_0 fX10_68 rfl rf_0_9 ?_
    refine rw_getI 9 7 0 kc7 dX10_isSunday_9 ly_199 rln_199 fX10_214 rfl ?_
    refine rn_icmp_ge 12 19 dX10_isSunday_12 (by decide) h (fun _ h => ?_) (fun _ h => ?_)
    · refine rw_iconst 19 (v := 0) dX10_isSunday_19 (by decide) ?_
      exact rn_zret 20 (v := false) dX10_isSunday_20 rfl h
    · refine rw_iconst 15 (v := 1) dX10_isSunday_15 (by decide) ?_
      refine rw_goto 16 20 dX10_isSunday_16 (by decide) ?_
      exact rn_zret 20 (v := true) dX10_isSunday_20 rfl h
def fX5_isSold (t0 : Nat) (a1 : Int32) (μ : Mem) : Option (Bool) :=
  if (((μ.1 t0 3) >>> (a1 &&& 31)) &&& 1) = 1 then
    some true
  else
    some false
set_option maxRecDepth 100000 in
theorem wX5_isSold (t0 : Nat) (ht0 : okX5 Rf0 NF t0) (a1 : Int32) (μ : Mem) {res : Bool} (h : fX5_isSold t0 a1 μ = some res) : Ct mX5_isSold 1 NF NF [.ref t0, .int a1] (μ, Rf0, NF) (QN (some (.int (b2i res))) μ Rf0 NF) := by
  unfold fX5_isSold at h
  show RW mX5_isSold 1 NF NF 0 [(0, .ref t0), (1, .int a1)] [] (μ, Rf0, NF) (QN (some (.int (b2i res))) μ Rf0 NF)
  refine rw_aload_n 0 dX5_isSold_0 0 rfl ?_
  refine rw_getI 1 5 3 kc5 dX5_isSold_1 (o5l ht0) (o5n ht0) fX5_21 rfl ?_
  refine rw_iload_n 4 dX5_isSold_4 1 rfl ?_
  refine rw_ishr 5 dX5_isSold_5 ?_
  refine rw_iconst 6 (v := 1) dX5_isSold_6 (by decide) ?_
  refine rw_iand 7 dX5_isSold_7 ?_
  refine rw_iconst 8 (v := 1) dX5_isSold_8 (by decide) ?_
  refine rn_icmp_ne 9 16 dX5_isSold_9 (by decide) h (fun _ h => ?_) (fun _ h => ?_)
  · refine rw_iconst 16 (v := 0) dX5_isSold_16 (by decide) ?_
    exact rn_zret 17 (v := false) dX5_isSold_17 rfl h
  · refine rw_iconst 12 (v := 1) dX5_isSold_12 (by decide) ?_
    refine rw_goto 13 17 dX5_isSold_13 (by decide) ?_
    exact rn_zret 17 (v := true) dX5_isSold_17 rfl h
def fX1_setSunday (t1 : Nat) (t2 : Nat) (a3 : Int32) (μ : Mem) : Option (Mem) :=
  if inb a3 4 then
  nm (wI μ 181 4 (μ.1 (t2 + 2) a3.toNatClampNeg)) fun μ1 =>
  if inb a3 4 then
  nm (wI μ1 181 5 (μ1.1 (t1 + 2) a3.toNatClampNeg)) fun μ2 =>
  nm (wI μ2 181 6 (μ2.1 t2 0)) fun μ3 =>
  some μ3
  else none
  else none
set_option maxRecDepth 100000 in
theorem wX1_setSunday (t1 : Nat) (ht1 : okX7 Rf0 NF t1) (t2 : Nat) (ht2 : okX5 Rf0 NF t2) (a3 : Int32) (μ : Mem) {res : Mem} (h : fX1_setSunday t1 t2 a3 μ = some res) : Ct mX1_setSunday 1 NF NF [.ref 180, .ref t1, .ref t2, .int a3] (μ, Rf0, NF) (QN none res Rf0 NF) := by
  unfold fX1_setSunday at h
  show RW mX1_setSunday 1 NF NF 0 [(0, .ref 180), (1, .ref t1), (2, .ref t2), (3, .int a3)] [] (μ, Rf0, NF) (QN none res Rf0 NF)
  refine rw_aload_n 0 dX1_setSunday_0 0 rfl ?_
  refine rw_getR 1 1 0 kc1 dX1_setSunday_1 ly_180 rln_180 fX1_9 rfl rf_180_0 ?_
  refine rw_iconst 4 (v := 4) dX1_setSunday_4 (by decide) ?_
  refine rw_aload_n 5 dX1_setSunday_5 2 rfl ?_
  refine rw_getR 6 5 5 kc5 dX1_setSunday_6 (o5l ht2) (o5n ht2) fX1_67 rfl (o5r5 ht2) ?_
  refine rw_iload_n 9 dX1_setSunday_9 3 rfl ?_
  refine rn_iald 10 dX1_setSunday_10 (o5l5 ht2) (o5n5 ht2) h (fun h => ?_)
  refine rn_iastc 11 dX1_setSunday_11 ly_181 rln_181 (by decide) (j := 4) (by decide) h (fun μ1 h => ?_)
  refine rw_aload_n 12 dX1_setSunday_12 0 rfl ?_
  refine rw_getR 13 1 0 kc1 dX1_setSunday_13 ly_180 rln_180 fX1_9 rfl rf_180_0 ?_
  refine rw_iconst 16 (v := 5) dX1_setSunday_16 (by decide) ?_
  refine rw_aload_n 17 dX1_setSunday_17 1 rfl ?_
  refine rw_getR 18 7 2 kc7 dX1_setSunday_18 (o7l ht1) (o7n ht1) fX1_70 rfl (o7r2 ht1) ?_
  refine rw_iload_n 21 dX1_setSunday_21 3 rfl ?_
  refine rn_iald 22 dX1_setSunday_22 (o7l2 ht1) (o7n2 ht1) h (fun h => ?_)
  refine rn_iastc 23 dX1_setSunday_23 ly_181 rln_181 (by decide) (j := 5) (by decide) h (fun μ2 h => ?_)
  refine rw_aload_n 24 dX1_setSunday_24 0 rfl ?_
  refine rw_getR 25 1 0 kc1 dX1_setSunday_25 ly_180 rln_180 fX1_9 rfl rf_180_0 ?_
  refine rw_bipush 28 (v := 6) dX1_setSunday_28 (by decide) ?_
  refine rw_aload_n 30 dX1_setSunday_30 2 rfl ?_
  refine rw_getI 31 5 0 kc5 dX1_setSunday_31 (o5l ht2) (o5n ht2) fX1_73 rfl ?_
  refine rn_iastc 34 dX1_setSunday_34 ly_181 rln_181 (by decide) (j := 6) (by decide) h (fun μ3 h => ?_)
  exact rn_vret 35 dX1_setSunday_35 rfl h
def fX7_spanOf_5 (t0 : Nat)  (v1 : Int32) (μ : Mem) (K : Int64 → Option (Int64)) : Nat → Int64 → Int32 → Option (Int64)
  | 0, _, _ => none
  | n + 1, v2, v4 =>
    if v4 < (μ.1 t0 3) then
      if ((v1 >>> (v4 &&& 31)) &&& 1) = 1 then
        if inb v4 7 then
        nm (v2 ||| (μ.2 (t0 + 11) v4.toNatClampNeg)) fun x1 =>
        fX7_spanOf_5 t0 v1 μ K n x1 (v4 + 1)
        else none
      else
        fX7_spanOf_5 t0 v1 μ K n v2 (v4 + 1)
    else
      K v2
def fX7_spanOf (t0 : Nat) (a1 : Int32) (μ : Mem) : Option (Int64) :=
  fX7_spanOf_5 t0 a1 μ (fun y2 =>
      some y2
  ) FU 0 0
set_option maxRecDepth 100000 in
theorem wX7_spanOf_5 (t0 : Nat) (ht0 : okX7 Rf0 NF t0)  (v1 : Int32) (μ : Mem) (K : Int64 → Option (Int64)) {res : Int64} (hK : ∀ (v2 : Int64), K v2 = some res → RW mX7_spanOf 1 NF NF 40 [(2, .long v2)] [] (μ, Rf0, NF) (QN (some (.long res)) μ Rf0 NF)) : ∀ (n9 : Nat) (v2 : Int64) (v4 : Int32), fX7_spanOf_5 t0 v1 μ K n9 v2 v4 = some res → RW mX7_spanOf 1 NF NF 5 [(0, .ref t0), (1, .int v1), (2, .long v2), (4, .int v4)] [] (μ, Rf0, NF) (QN (some (.long res)) μ Rf0 NF) := by
  intro n9
  induction n9 with
  | zero => intro _ _ h; cases h
  | succ n ih =>
    intro v2 v4 h
    unfold fX7_spanOf_5 at h
    refine rw_iload 5 dX7_spanOf_5 3 rfl ?_
    refine rw_aload_n 7 dX7_spanOf_7 0 rfl ?_
    refine rw_getI 8 7 3 kc7 dX7_spanOf_8 (o7l ht0) (o7n ht0) fX7_22 rfl ?_
    refine rn_icmp_ge 11 40 dX7_spanOf_11 (by decide) h (fun _ h => ?_) (fun _ h => ?_)
    · refine rw_pick 40 [2] rfl ?_
      exact hK v2 h
    · refine rw_iload_n 14 dX7_spanOf_14 1 rfl ?_
      refine rw_iload 15 dX7_spanOf_15 3 rfl ?_
      refine rw_ishr 17 dX7_spanOf_17 ?_
      refine rw_iconst 18 (v := 1) dX7_spanOf_18 (by decide) ?_
      refine rw_iand 19 dX7_spanOf_19 ?_
      refine rw_iconst 20 (v := 1) dX7_spanOf_20 (by decide) ?_
      refine rn_icmp_ne 21 34 dX7_spanOf_21 (by decide) h (fun _ h => ?_) (fun _ h => ?_)
      · refine rw_iinc 34 [(0, .ref t0), (1, .int v1), (2, .long v2), (4, .int (v4 + 1))] dX7_spanOf_34 3 rfl rfl (by decide) rfl ?_
        refine rw_goto 37 5 dX7_spanOf_37 (by decide) ?_
        exact ih v2 (v4 + 1) h
      · refine rw_lload_n 24 dX7_spanOf_24 2 rfl ?_
        refine rw_aload_n 25 dX7_spanOf_25 0 rfl ?_
        refine rw_getR 26 7 12 kc7 dX7_spanOf_26 (o7l ht0) (o7n ht0) fX7_53 rfl (o7r12 ht0) ?_
        refine rw_iload 29 dX7_spanOf_29 3 rfl ?_
        refine rn_lald 31 dX7_spanOf_31 (o7l12 ht0) (o7n12 ht0) h (fun h => ?_)
        refine rw_lor 32 dX7_spanOf_32 ?_
        refine rn_lst_n 33 (fun x1 => [(0, .ref t0), (1, .int v1), (2, .long x1), (4, .int v4)]) dX7_spanOf_33 (by decide) (fun _ => rfl) h (fun x1 h => ?_)
        refine rw_iinc 34 [(0, .ref t0), (1, .int v1), (2, .long x1), (4, .int (v4 + 1))] dX7_spanOf_34 3 rfl rfl (by decide) rfl ?_
        refine rw_goto 37 5 dX7_spanOf_37 (by decide) ?_
        exact ih x1 (v4 + 1) h
set_option maxRecDepth 100000 in
theorem wX7_spanOf (t0 : Nat) (ht0 : okX7 Rf0 NF t0) (a1 : Int32) (μ : Mem) {res : Int64} (h : fX7_spanOf t0 a1 μ = some res) : Ct mX7_spanOf 1 NF NF [.ref t0, .int a1] (μ, Rf0, NF) (QN (some (.long res)) μ Rf0 NF) := by
  unfold fX7_spanOf at h
  show RW mX7_spanOf 1 NF NF 0 [(0, .ref t0), (1, .int a1)] [] (μ, Rf0, NF) (QN (some (.long res)) μ Rf0 NF)
  refine rw_lconst 0 (v := 0) dX7_spanOf_0 (by decide) ?_
  refine rw_lstore_n 1 [(0, .ref t0), (1, .int a1), (2, .long 0)] dX7_spanOf_1 (by decide) rfl ?_
  refine rw_iconst 2 (v := 0) dX7_spanOf_2 (by decide) ?_
  refine rw_istore 3 [(0, .ref t0), (1, .int a1), (2, .long 0), (4, .int 0)] dX7_spanOf_3 (by decide) rfl ?_
  refine wX7_spanOf_5 t0 ht0 a1 μ _ (fun y2 h => ?_) FU 0 0 h
  refine rw_lload_n 40 dX7_spanOf_40 0 rfl ?_
  exact rn_lret 41 dX7_spanOf_41 rfl h
def fX7_hoursOf (t0 : Nat) (a1 : Int32) (μ : Mem) : Option (Int32) :=
  (fX7_spanOf t0 a1 μ).bind fun q1 =>
  (fJ13_bitCount_95d88 q1 μ).bind fun q2 =>
  some q2
set_option maxRecDepth 100000 in
theorem wX7_hoursOf (t0 : Nat) (ht0 : okX7 Rf0 NF t0) (a1 : Int32) (μ : Mem) {res : Int32} (h : fX7_hoursOf t0 a1 μ = some res) : Ct mX7_hoursOf 2 NF NF [.ref t0, .int a1] (μ, Rf0, NF) (QN (some (.int res)) μ Rf0 NF) := by
  unfold fX7_hoursOf at h
  show RW mX7_hoursOf 2 NF NF 0 [(0, .ref t0), (1, .int a1)] [] (μ, Rf0, NF) (QN (some (.int res)) μ Rf0 NF)
  refine rw_aload_n 0 dX7_hoursOf_0 0 rfl ?_
  refine rw_iload_n 1 dX7_hoursOf_1 1 rfl ?_
  refine rn_cVpl 2 7 [.int a1] dX7_hoursOf_2 caX7_spanOf lX7_85 inX7_spanOf slX7_spanOf rfl (o7l ht0) ⟨_, rfl, rfl⟩ (o7n ht0) naX7_spanOf (Nat.le_of_ble_eq_true rfl) (Nat.le_of_ble_eq_true rfl) (by decide) (fun _ hq => wX7_spanOf t0 ht0 a1 μ hq) h (fun q1 h => ?_)
  refine rn_cSpi 5 [.long q1] dX7_hoursOf_5 caJ13_bitCount_95d88 lX7_89 stJ13_bitCount_95d88 rfl naJ13_bitCount_95d88 (Nat.le_of_ble_eq_true rfl) (Nat.le_of_ble_eq_true rfl) (by decide) (fun _ hq => wJ13_bitCount_95d88 q1 μ hq) h (fun q2 h => ?_)
  exact rn_iret 8 dX7_hoursOf_8 rfl h
def fX2_reckon (a0 : Int32) (a1 : Int32) (a2 : Int32) (μ : Mem) : Option (Int32) :=
  if a0 = 6 then
    some (a1 + a2)
  else
  if a0 = 7 then
    some (a1 - a2)
  else
  if a0 = 8 then
    some (a1 * a2)
  else
    if a2 = 0 then
      some 0
    else
      if a2 = 0 then none else
      some (a1 / a2)
set_option maxRecDepth 100000 in
theorem wX2_reckon (a0 : Int32) (a1 : Int32) (a2 : Int32) (μ : Mem) {res : Int32} (h : fX2_reckon a0 a1 a2 μ = some res) : Ct mX2_reckon 1 NF NF [.int a0, .int a1, .int a2] (μ, Rf0, NF) (QN (some (.int res)) μ Rf0 NF) := by
  unfold fX2_reckon at h
  show RW mX2_reckon 1 NF NF 0 [(0, .int a0), (1, .int a1), (2, .int a2)] [] (μ, Rf0, NF) (QN (some (.int res)) μ Rf0 NF)
  refine rw_iload_n 0 dX2_reckon_0 0 rfl ?_
  rcases if_b h with ⟨c1, h⟩ | ⟨c1, h⟩
  · refine rn_tab 1 6 28 dX2_reckon_1 c1 (by decide) (by decide) rfl (by decide) ?_
    refine rw_iload_n 28 dX2_reckon_28 1 rfl ?_
    refine rw_iload_n 29 dX2_reckon_29 2 rfl ?_
    refine rw_iadd 30 dX2_reckon_30 ?_
    exact rn_iret 31 dX2_reckon_31 rfl h
  · rcases if_b h with ⟨c2, h⟩ | ⟨c2, h⟩
    · refine rn_tab 1 7 32 dX2_reckon_1 c2 (by decide) (by decide) rfl (by decide) ?_
      refine rw_iload_n 32 dX2_reckon_32 1 rfl ?_
      refine rw_iload_n 33 dX2_reckon_33 2 rfl ?_
      refine rw_isub 34 dX2_reckon_34 ?_
      exact rn_iret 35 dX2_reckon_35 rfl h
    · rcases if_b h with ⟨c3, h⟩ | ⟨c3, h⟩
      · refine rn_tab 1 8 36 dX2_reckon_1 c3 (by decide) (by decide) rfl (by decide) ?_
        refine rw_iload_n 36 dX2_reckon_36 1 rfl ?_
        refine rw_iload_n 37 dX2_reckon_37 2 rfl ?_
        refine rw_imul 38 dX2_reckon_38 ?_
        exact rn_iret 39 dX2_reckon_39 rfl h
      · refine rw_tabOut 1 (x := a0) 40 dX2_reckon_1 (by have := ne_int c1 (k := 6) (by decide); have := ne_int c2 (k := 7) (by decide); have := ne_int c3 (k := 8) (by decide); omega) (by decide) ?_
        refine rw_iload_n 40 dX2_reckon_40 2 rfl ?_
        refine rn_if_ne 41 48 dX2_reckon_41 (by decide) h (fun _ h => ?_) (fun _ h => ?_)
        · refine rw_iload_n 48 dX2_reckon_48 1 rfl ?_
          refine rw_iload_n 49 dX2_reckon_49 2 rfl ?_
          refine rn_idiv 50 dX2_reckon_50 h (fun h => ?_)
          exact rn_iret 51 dX2_reckon_51 rfl h
        · refine rw_iconst 44 (v := 0) dX2_reckon_44 (by decide) ?_
          refine rw_goto 45 51 dX2_reckon_45 (by decide) ?_
          exact rn_iret 51 dX2_reckon_51 rfl h
def fX2_answer_j64_11 (t0 : Nat)  (KB : Int32 → Int32 → Mem → Option (Int32 × Mem)) (K : Mem → Option (Int32 × Mem)) (v4 : Int32) (v5 : Int32) (v6 : Int32) (μ : Mem) : Option (Int32 × Mem) :=
  if v4 < 16 then
    if v6 = 3 then
      if inb v5 408 then
      if inb v4 16 then nm (wI μ 182 v4.toNatClampNeg (μ.1 (t0 + 2) v5.toNatClampNeg)) fun μ4 =>
      KB (v4 + 1) (v5 + 1) μ4
      else none
      else none
    else
      if inb v5 408 then
      if inb (μ.1 (t0 + 2) v5.toNatClampNeg) 9 then
      if inb v4 16 then nm (wI μ 182 v4.toNatClampNeg (μ.1 181 (μ.1 (t0 + 2) v5.toNatClampNeg).toNatClampNeg)) fun μ3 =>
      KB (v4 + 1) (v5 + 1) μ3
      else none
      else none
      else none
  else
    some (0, μ)
def fX2_answer_11 (t0 : Nat)    (K : Mem → Option (Int32 × Mem)) : Nat → Int32 → Int32 → Mem → Option (Int32 × Mem)
  | 0, _, _, _ => none
  | n + 1, v4, v5, μ =>
    if v5 < (μ.1 t0 3) then
      if inb v5 408 then
      nm (μ.1 (t0 + 1) v5.toNatClampNeg) fun x2 =>
      if x2 = 0 then
        if v4 < 1 then
          some (0, μ)
        else
          if inb (v4 - 1) 16 then
          some ((μ.1 182 (v4 - 1).toNatClampNeg), μ)
          else none
      else
        if x2 = 3 then
          fX2_answer_j64_11 t0 (fun z0 z1 zm => fX2_answer_11 t0 K n z0 z1 zm) K v4 v5 x2 μ
        else
          if x2 = 13 then
            fX2_answer_j64_11 t0 (fun z0 z1 zm => fX2_answer_11 t0 K n z0 z1 zm) K v4 v5 x2 μ
          else
            if v4 < 2 then
              some (0, μ)
            else
              if inb (v4 - 2) 16 then
              nm (μ.1 182 (v4 - 2).toNatClampNeg) fun x5 =>
              if inb (v4 - 1) 16 then
              nm (μ.1 182 (v4 - 1).toNatClampNeg) fun x6 =>
              if x2 = 10 then
                if x5 < x6 then
                  fX2_answer_11 t0 K n (v4 + (-2)) (v5 + 1) μ
                else
                  if inb v5 408 then
                  nm (mxI v5 ((μ.1 (t0 + 2) v5.toNatClampNeg) - 1)) fun x11 =>
                  fX2_answer_11 t0 K n (v4 + (-2)) (x11 + 1) μ
                  else none
              else
                if x2 = 9 then
                  if x6 = 0 then
                    some (0, μ)
                  else
                    (fX2_reckon x2 x5 x6 μ).bind fun q9 =>
                    if inb ((v4 + (-1)) - 1) 16 then nm (wI μ 182 ((v4 + (-1)) - 1).toNatClampNeg q9) fun μ10 =>
                    fX2_answer_11 t0 K n (v4 + (-1)) (v5 + 1) μ10
                    else none
                else
                  (fX2_reckon x2 x5 x6 μ).bind fun q7 =>
                  if inb ((v4 + (-1)) - 1) 16 then nm (wI μ 182 ((v4 + (-1)) - 1).toNatClampNeg q7) fun μ8 =>
                  fX2_answer_11 t0 K n (v4 + (-1)) (v5 + 1) μ8
                  else none
              else none
              else none
      else none
    else
      K μ
def fX2_answer (t0 : Nat) (a1 : Int32) (μ : Mem) : Option (Int32 × Mem) :=
  if inb a1 4 then
  nm (μ.1 (t0 + 3) a1.toNatClampNeg) fun x1 =>
  fX2_answer_11 t0 (fun μ12 =>
      some (0, μ12)
  ) FU 0 x1 μ
  else none
set_option maxRecDepth 100000 in
theorem wX2_answer_j64_11 (t0 : Nat) (ht0 : okX2 Rf0 NF t0)  {res : Int32 × Mem} (v4 : Int32) (v5 : Int32) (v6 : Int32) (μ : Mem) (KB : Int32 → Int32 → Mem → Option (Int32 × Mem)) (hB : ∀ (u4 : Int32) (u5 : Int32) (um : Mem), KB u4 u5 um = some res → RW mX2_answer 2 NF NF 11 [(0, .ref t0), (2, .ref 181), (3, .ref 182), (4, .int u4), (5, .int u5)] [] (um, Rf0, NF) (QN (some (.int res.1)) res.2 Rf0 NF)) (K : Mem → Option (Int32 × Mem)) (hK : ∀ (um : Mem), K um = some res → RW mX2_answer 2 NF NF 211 [] [] (um, Rf0, NF) (QN (some (.int res.1)) res.2 Rf0 NF)) (h : fX2_answer_j64_11 t0 KB K v4 v5 v6 μ = some res) : RW mX2_answer 2 NF NF 64 [(0, .ref t0), (2, .ref 181), (3, .ref 182), (4, .int v4), (5, .int v5), (6, .int v6)] [] (μ, Rf0, NF) (QN (some (.int res.1)) res.2 Rf0 NF) := by
  unfold fX2_answer_j64_11 at h
  refine rw_iload 64 dX2_answer_64 3 rfl ?_
  refine rw_bipush 66 (v := 16) dX2_answer_66 (by decide) ?_
  refine rn_icmp_lt 68 73 dX2_answer_68 (by decide) h (fun _ h => ?_) (fun _ h => ?_)
  · refine rw_aload_n 73 dX2_answer_73 2 rfl ?_
    refine rw_iload 74 dX2_answer_74 3 rfl ?_
    refine rw_iload 76 dX2_answer_76 5 rfl ?_
    refine rw_iconst 78 (v := 3) dX2_answer_78 (by decide) ?_
    refine rn_icmp_ne 79 92 dX2_answer_79 (by decide) h (fun _ h => ?_) (fun _ h => ?_)
    · refine rw_aload_n 92 dX2_answer_92 1 rfl ?_
      refine rw_aload_n 93 dX2_answer_93 0 rfl ?_
      refine rw_getR 94 2 1 kc2 dX2_answer_94 (o2l ht0) (o2n ht0) fX2_15 rfl (o2r1 ht0) ?_
      refine rw_iload 97 dX2_answer_97 4 rfl ?_
      refine rn_iald 99 dX2_answer_99 (o2l1 ht0) (o2n1 ht0) h (fun h => ?_)
      refine rn_iald 100 dX2_answer_100 ly_181 rln_181 h (fun h => ?_)
      refine rn_iast 101 dX2_answer_101 ly_182 rln_182 h (fun μ3 h => ?_)
      refine rw_iinc 102 [(0, .ref t0), (2, .ref 181), (3, .ref 182), (4, .int (v4 + 1)), (5, .int v5), (6, .int v6)] dX2_answer_102 3 rfl rfl (by decide) rfl ?_
      refine rw_goto 105 205 dX2_answer_105 (by decide) ?_
      refine rw_iinc 205 [(0, .ref t0), (2, .ref 181), (3, .ref 182), (4, .int (v4 + 1)), (5, .int (v5 + 1)), (6, .int v6)] dX2_answer_205 4 rfl rfl (by decide) rfl ?_
      refine rw_goto 208 11 dX2_answer_208 (by decide) ?_
      refine rw_pick 11 [0, 1, 2, 3, 4] rfl ?_
      exact hB (v4 + 1) (v5 + 1) μ3 h
    · refine rw_aload_n 82 dX2_answer_82 0 rfl ?_
      refine rw_getR 83 2 1 kc2 dX2_answer_83 (o2l ht0) (o2n ht0) fX2_15 rfl (o2r1 ht0) ?_
      refine rw_iload 86 dX2_answer_86 4 rfl ?_
      refine rn_iald 88 dX2_answer_88 (o2l1 ht0) (o2n1 ht0) h (fun h => ?_)
      refine rw_goto 89 101 dX2_answer_89 (by decide) ?_
      refine rn_iast 101 dX2_answer_101 ly_182 rln_182 h (fun μ4 h => ?_)
      refine rw_iinc 102 [(0, .ref t0), (2, .ref 181), (3, .ref 182), (4, .int (v4 + 1)), (5, .int v5), (6, .int v6)] dX2_answer_102 3 rfl rfl (by decide) rfl ?_
      refine rw_goto 105 205 dX2_answer_105 (by decide) ?_
      refine rw_iinc 205 [(0, .ref t0), (2, .ref 181), (3, .ref 182), (4, .int (v4 + 1)), (5, .int (v5 + 1)), (6, .int v6)] dX2_answer_205 4 rfl rfl (by decide) rfl ?_
      refine rw_goto 208 11 dX2_answer_208 (by decide) ?_
      refine rw_pick 11 [0, 1, 2, 3, 4] rfl ?_
      exact hB (v4 + 1) (v5 + 1) μ4 h
  · refine rw_iconst 71 (v := 0) dX2_answer_71 (by decide) ?_
    exact rn_iret2 72 dX2_answer_72 rfl h
set_option maxRecDepth 100000 in
theorem wX2_answer_11 (t0 : Nat) (ht0 : okX2 Rf0 NF t0)    (K : Mem → Option (Int32 × Mem)) {res : Int32 × Mem} (hK : ∀  (μ : Mem), K μ = some res → RW mX2_answer 2 NF NF 211 [] [] (μ, Rf0, NF) (QN (some (.int res.1)) res.2 Rf0 NF)) : ∀ (n9 : Nat) (v4 : Int32) (v5 : Int32) (μ : Mem), fX2_answer_11 t0 K n9 v4 v5 μ = some res → RW mX2_answer 2 NF NF 11 [(0, .ref t0), (2, .ref 181), (3, .ref 182), (4, .int v4), (5, .int v5)] [] (μ, Rf0, NF) (QN (some (.int res.1)) res.2 Rf0 NF) := by
  intro n9
  induction n9 with
  | zero => intro _ _ _ h; cases h
  | succ n ih =>
    intro v4 v5 μ h
    unfold fX2_answer_11 at h
    refine rw_iload 11 dX2_answer_11 4 rfl ?_
    refine rw_aload_n 13 dX2_answer_13 0 rfl ?_
    refine rw_getI 14 2 3 kc2 dX2_answer_14 (o2l ht0) (o2n ht0) fX2_21 rfl ?_
    refine rn_icmp_ge 17 211 dX2_answer_17 (by decide) h (fun _ h => ?_) (fun _ h => ?_)
    · refine rw_pick 211 [] rfl ?_
      exact hK μ h
    · refine rw_aload_n 20 dX2_answer_20 0 rfl ?_
      refine rw_getR 21 2 0 kc2 dX2_answer_21 (o2l ht0) (o2n ht0) fX2_11 rfl (o2r0 ht0) ?_
      refine rw_iload 24 dX2_answer_24 4 rfl ?_
      refine rn_iald 26 dX2_answer_26 (o2l0 ht0) (o2n0 ht0) h (fun h => ?_)
      refine rn_ist 27 (fun x2 => [(0, .ref t0), (2, .ref 181), (3, .ref 182), (4, .int v4), (5, .int v5), (6, .int x2)]) dX2_answer_27 (by decide) (fun _ => rfl) h (fun x2 h => ?_)
      refine rw_iload 29 dX2_answer_29 5 rfl ?_
      refine rn_if_ne 31 51 dX2_answer_31 (by decide) h (fun _ h => ?_) (fun _ h => ?_)
      · refine rw_iload 51 dX2_answer_51 5 rfl ?_
        refine rw_iconst 53 (v := 3) dX2_answer_53 (by decide) ?_
        refine rn_icmp_eq 54 64 dX2_answer_54 (by decide) h (fun _ h => ?_) (fun _ h => ?_)
        · exact wX2_answer_j64_11 t0 ht0 v4 v5 x2 μ _ (fun z0 z1 zm h => ih z0 z1 zm h) K hK h
        · refine rw_iload 57 dX2_answer_57 5 rfl ?_
          refine rw_bipush 59 (v := 13) dX2_answer_59 (by decide) ?_
          refine rn_icmp_ne 61 108 dX2_answer_61 (by decide) h (fun _ h => ?_) (fun _ h => ?_)
          · refine rw_iload 108 dX2_answer_108 3 rfl ?_
            refine rw_iconst 110 (v := 2) dX2_answer_110 (by decide) ?_
            refine rn_icmp_ge 111 116 dX2_answer_111 (by decide) h (fun _ h => ?_) (fun _ h => ?_)
            · refine rw_aload_n 116 dX2_answer_116 2 rfl ?_
              refine rw_iload 117 dX2_answer_117 3 rfl ?_
              refine rw_iconst 119 (v := 2) dX2_answer_119 (by decide) ?_
              refine rw_isub 120 dX2_answer_120 ?_
              refine rn_iald 121 dX2_answer_121 ly_182 rln_182 h (fun h => ?_)
              refine rn_ist 122 (fun x5 => [(0, .ref t0), (2, .ref 181), (3, .ref 182), (4, .int v4), (5, .int v5), (6, .int x2), (7, .int x5)]) dX2_answer_122 (by decide) (fun _ => rfl) h (fun x5 h => ?_)
              refine rw_aload_n 124 dX2_answer_124 2 rfl ?_
              refine rw_iload 125 dX2_answer_125 3 rfl ?_
              refine rw_iconst 127 (v := 1) dX2_answer_127 (by decide) ?_
              refine rw_isub 128 dX2_answer_128 ?_
              refine rn_iald 129 dX2_answer_129 ly_182 rln_182 h (fun h => ?_)
              refine rn_ist 130 (fun x6 => [(0, .ref t0), (2, .ref 181), (3, .ref 182), (4, .int v4), (5, .int v5), (6, .int x2), (7, .int x5), (8, .int x6)]) dX2_answer_130 (by decide) (fun _ => rfl) h (fun x6 h => ?_)
              refine rw_iload 132 dX2_answer_132 5 rfl ?_
              refine rw_bipush 134 (v := 10) dX2_answer_134 (by decide) ?_
              refine rn_icmp_ne 136 173 dX2_answer_136 (by decide) h (fun _ h => ?_) (fun _ h => ?_)
              · refine rw_iload 173 dX2_answer_173 5 rfl ?_
                refine rw_bipush 175 (v := 9) dX2_answer_175 (by decide) ?_
                refine rn_icmp_ne 177 187 dX2_answer_177 (by decide) h (fun _ h => ?_) (fun _ h => ?_)
                · refine rw_iinc 187 [(0, .ref t0), (2, .ref 181), (3, .ref 182), (4, .int (v4 + (-1))), (5, .int v5), (6, .int x2), (7, .int x5), (8, .int x6)] dX2_answer_187 3 rfl rfl (by decide) rfl ?_
                  refine rw_aload_n 190 dX2_answer_190 2 rfl ?_
                  refine rw_iload 191 dX2_answer_191 3 rfl ?_
                  refine rw_iconst 193 (v := 1) dX2_answer_193 (by decide) ?_
                  refine rw_isub 194 dX2_answer_194 ?_
                  refine rw_iload 195 dX2_answer_195 5 rfl ?_
                  refine rw_iload 197 dX2_answer_197 6 rfl ?_
                  refine rw_iload 199 dX2_answer_199 7 rfl ?_
                  refine rn_cSpi 201 [.int x2, .int x5, .int x6] dX2_answer_201 caX2_reckon lX2_42 stX2_reckon rfl naX2_reckon (Nat.le_of_ble_eq_true rfl) (Nat.le_of_ble_eq_true rfl) (by decide) (fun _ hq => wX2_reckon x2 x5 x6 μ hq) h (fun q7 h => ?_)
                  refine rn_iast 204 dX2_answer_204 ly_182 rln_182 h (fun μ8 h => ?_)
                  refine rw_iinc 205 [(0, .ref t0), (2, .ref 181), (3, .ref 182), (4, .int (v4 + (-1))), (5, .int (v5 + 1)), (6, .int x2), (7, .int x5), (8, .int x6)] dX2_answer_205 4 rfl rfl (by decide) rfl ?_
                  refine rw_goto 208 11 dX2_answer_208 (by decide) ?_
                  refine rw_pick 11 [0, 1, 2, 3, 4] rfl ?_
                  exact ih (v4 + (-1)) (v5 + 1) μ8 h
                · refine rw_iload 180 dX2_answer_180 7 rfl ?_
                  refine rn_if_ne 182 187 dX2_answer_182 (by decide) h (fun _ h => ?_) (fun _ h => ?_)
                  · refine rw_iinc 187 [(0, .ref t0), (2, .ref 181), (3, .ref 182), (4, .int (v4 + (-1))), (5, .int v5), (6, .int x2), (7, .int x5), (8, .int x6)] dX2_answer_187 3 rfl rfl (by decide) rfl ?_
                    refine rw_aload_n 190 dX2_answer_190 2 rfl ?_
                    refine rw_iload 191 dX2_answer_191 3 rfl ?_
                    refine rw_iconst 193 (v := 1) dX2_answer_193 (by decide) ?_
                    refine rw_isub 194 dX2_answer_194 ?_
                    refine rw_iload 195 dX2_answer_195 5 rfl ?_
                    refine rw_iload 197 dX2_answer_197 6 rfl ?_
                    refine rw_iload 199 dX2_answer_199 7 rfl ?_
                    refine rn_cSpi 201 [.int x2, .int x5, .int x6] dX2_answer_201 caX2_reckon lX2_42 stX2_reckon rfl naX2_reckon (Nat.le_of_ble_eq_true rfl) (Nat.le_of_ble_eq_true rfl) (by decide) (fun _ hq => wX2_reckon x2 x5 x6 μ hq) h (fun q9 h => ?_)
                    refine rn_iast 204 dX2_answer_204 ly_182 rln_182 h (fun μ10 h => ?_)
                    refine rw_iinc 205 [(0, .ref t0), (2, .ref 181), (3, .ref 182), (4, .int (v4 + (-1))), (5, .int (v5 + 1)), (6, .int x2), (7, .int x5), (8, .int x6)] dX2_answer_205 4 rfl rfl (by decide) rfl ?_
                    refine rw_goto 208 11 dX2_answer_208 (by decide) ?_
                    refine rw_pick 11 [0, 1, 2, 3, 4] rfl ?_
                    exact ih (v4 + (-1)) (v5 + 1) μ10 h
                  · refine rw_iconst 185 (v := 0) dX2_answer_185 (by decide) ?_
                    exact rn_iret2 186 dX2_answer_186 rfl h
              · refine rw_iinc 139 [(0, .ref t0), (2, .ref 181), (3, .ref 182), (4, .int (v4 + (-2))), (5, .int v5), (6, .int x2), (7, .int x5), (8, .int x6)] dX2_answer_139 3 rfl rfl (by decide) rfl ?_
                refine rw_iload 142 dX2_answer_142 6 rfl ?_
                refine rw_iload 144 dX2_answer_144 7 rfl ?_
                refine rn_icmp_ge 146 154 dX2_answer_146 (by decide) h (fun _ h => ?_) (fun _ h => ?_)
                · refine rw_iload 154 dX2_answer_154 4 rfl ?_
                  refine rw_aload_n 156 dX2_answer_156 0 rfl ?_
                  refine rw_getR 157 2 1 kc2 dX2_answer_157 (o2l ht0) (o2n ht0) fX2_15 rfl (o2r1 ht0) ?_
                  refine rw_iload 160 dX2_answer_160 4 rfl ?_
                  refine rn_iald 162 dX2_answer_162 (o2l1 ht0) (o2n1 ht0) h (fun h => ?_)
                  refine rw_iconst 163 (v := 1) dX2_answer_163 (by decide) ?_
                  refine rw_isub 164 dX2_answer_164 ?_
                  refine rw_mmax 165 dX2_answer_165 lX2_37 stJ9_max_7cf53 iiJ9_max_7cf53 coJ9_max_7cf53 (by decide) (Nat.le_of_ble_eq_true rfl) ?_
                  refine rn_ist 168 (fun x11 => [(0, .ref t0), (2, .ref 181), (3, .ref 182), (4, .int (v4 + (-2))), (5, .int x11), (6, .int x2), (7, .int x5), (8, .int x6)]) dX2_answer_168 (by decide) (fun _ => rfl) h (fun x11 h => ?_)
                  refine rw_goto 170 205 dX2_answer_170 (by decide) ?_
                  refine rw_iinc 205 [(0, .ref t0), (2, .ref 181), (3, .ref 182), (4, .int (v4 + (-2))), (5, .int (x11 + 1)), (6, .int x2), (7, .int x5), (8, .int x6)] dX2_answer_205 4 rfl rfl (by decide) rfl ?_
                  refine rw_goto 208 11 dX2_answer_208 (by decide) ?_
                  refine rw_pick 11 [0, 1, 2, 3, 4] rfl ?_
                  exact ih (v4 + (-2)) (x11 + 1) μ h
                · refine rw_iload 149 dX2_answer_149 4 rfl ?_
                  refine rw_goto 151 168 dX2_answer_151 (by decide) ?_
                  refine rw_istore 168 [(0, .ref t0), (2, .ref 181), (3, .ref 182), (4, .int (v4 + (-2))), (5, .int v5), (6, .int x2), (7, .int x5), (8, .int x6)] dX2_answer_168 (by decide) rfl ?_
                  refine rw_goto 170 205 dX2_answer_170 (by decide) ?_
                  refine rw_iinc 205 [(0, .ref t0), (2, .ref 181), (3, .ref 182), (4, .int (v4 + (-2))), (5, .int (v5 + 1)), (6, .int x2), (7, .int x5), (8, .int x6)] dX2_answer_205 4 rfl rfl (by decide) rfl ?_
                  refine rw_goto 208 11 dX2_answer_208 (by decide) ?_
                  refine rw_pick 11 [0, 1, 2, 3, 4] rfl ?_
                  exact ih (v4 + (-2)) (v5 + 1) μ h
            · refine rw_iconst 114 (v := 0) dX2_answer_114 (by decide) ?_
              exact rn_iret2 115 dX2_answer_115 rfl h
          · exact wX2_answer_j64_11 t0 ht0 v4 v5 x2 μ _ (fun z0 z1 zm h => ih z0 z1 zm h) K hK h
      · refine rw_iload 34 dX2_answer_34 3 rfl ?_
        refine rw_iconst 36 (v := 1) dX2_answer_36 (by decide) ?_
        refine rn_icmp_ge 37 44 dX2_answer_37 (by decide) h (fun _ h => ?_) (fun _ h => ?_)
        · refine rw_aload_n 44 dX2_answer_44 2 rfl ?_
          refine rw_iload 45 dX2_answer_45 3 rfl ?_
          refine rw_iconst 47 (v := 1) dX2_answer_47 (by decide) ?_
          refine rw_isub 48 dX2_answer_48 ?_
          refine rn_iald 49 dX2_answer_49 ly_182 rln_182 h (fun h => ?_)
          exact rn_iret2 50 dX2_answer_50 rfl h
        · refine rw_iconst 40 (v := 0) dX2_answer_40 (by decide) ?_
          refine rw_goto 41 50 dX2_answer_41 (by decide) ?_
          exact rn_iret2 50 dX2_answer_50 rfl h
set_option maxRecDepth 100000 in
theorem wX2_answer (t0 : Nat) (ht0 : okX2 Rf0 NF t0) (a1 : Int32) (μ : Mem) {res : Int32 × Mem} (h : fX2_answer t0 a1 μ = some res) : Ct mX2_answer 2 NF NF [.ref t0, .int a1, .ref 181, .ref 182] (μ, Rf0, NF) (QN (some (.int res.1)) res.2 Rf0 NF) := by
  unfold fX2_answer at h
  show RW mX2_answer 2 NF NF 0 [(0, .ref t0), (1, .int a1), (2, .ref 181), (3, .ref 182)] [] (μ, Rf0, NF) (QN (some (.int res.1)) res.2 Rf0 NF)
  refine rw_iconst 0 (v := 0) dX2_answer_0 (by decide) ?_
  refine rw_istore 1 [(0, .ref t0), (1, .int a1), (2, .ref 181), (3, .ref 182), (4, .int 0)] dX2_answer_1 (by decide) rfl ?_
  refine rw_aload_n 3 dX2_answer_3 0 rfl ?_
  refine rw_getR 4 2 2 kc2 dX2_answer_4 (o2l ht0) (o2n ht0) fX2_18 rfl (o2r2 ht0) ?_
  refine rw_iload_n 7 dX2_answer_7 1 rfl ?_
  refine rn_iald 8 dX2_answer_8 (o2l2 ht0) (o2n2 ht0) h (fun h => ?_)
  refine rn_ist 9 (fun x1 => [(0, .ref t0), (1, .int a1), (2, .ref 181), (3, .ref 182), (4, .int 0), (5, .int x1)]) dX2_answer_9 (by decide) (fun _ => rfl) h (fun x1 h => ?_)
  refine rw_pick 11 [0, 2, 3, 4, 5] rfl ?_
  refine wX2_answer_11 t0 ht0 _ (fun μ12 h => ?_) FU 0 x1 μ h
  refine rw_iconst 211 (v := 0) dX2_answer_211 (by decide) ?_
  exact rn_iret2 212 dX2_answer_212 rfl h
def fX1_answerHeld (t1 : Nat) (a2 : Int32) (μ : Mem) : Option (Int32 × Mem) :=
  (fX2_answer t1 a2 μ).bind fun q1 =>
  some ((mxI 0 (mnI 99 q1.1)), q1.2)
set_option maxRecDepth 100000 in
theorem wX1_answerHeld (t1 : Nat) (ht1 : okX2 Rf0 NF t1) (a2 : Int32) (μ : Mem) {res : Int32 × Mem} (h : fX1_answerHeld t1 a2 μ = some res) : Ct mX1_answerHeld 3 NF NF [.ref 180, .ref t1, .int a2] (μ, Rf0, NF) (QN (some (.int res.1)) res.2 Rf0 NF) := by
  unfold fX1_answerHeld at h
  show RW mX1_answerHeld 3 NF NF 0 [(0, .ref 180), (1, .ref t1), (2, .int a2)] [] (μ, Rf0, NF) (QN (some (.int res.1)) res.2 Rf0 NF)
  refine rw_iconst 0 (v := 0) dX1_answerHeld_0 (by decide) ?_
  refine rw_bipush 1 (v := 99) dX1_answerHeld_1 (by decide) ?_
  refine rw_aload_n 3 dX1_answerHeld_3 1 rfl ?_
  refine rw_iload_n 4 dX1_answerHeld_4 2 rfl ?_
  refine rw_aload_n 5 dX1_answerHeld_5 0 rfl ?_
  refine rw_getR 6 1 0 kc1 dX1_answerHeld_6 ly_180 rln_180 fX1_9 rfl rf_180_0 ?_
  refine rw_aload_n 9 dX1_answerHeld_9 0 rfl ?_
  refine rw_getR 10 1 1 kc1 dX1_answerHeld_10 ly_180 rln_180 fX1_17 rfl rf_180_1 ?_
  refine rn_cVmi 13 2 [.int a2, .ref 181, .ref 182] dX1_answerHeld_13 caX2_answer lX1_77 inX2_answer slX2_answer rfl (o2l ht1) ⟨_, rfl, rfl⟩ (o2n ht1) naX2_answer (Nat.le_of_ble_eq_true rfl) (Nat.le_of_ble_eq_true rfl) (by decide) (fun _ hq => wX2_answer t1 ht1 a2 μ hq) h (fun q1 h => ?_)
  refine rw_mmin 16 dX1_answerHeld_16 lX1_81 stJ9_min_7cf53 iiJ9_min_7cf53 coJ9_min_7cf53 (by decide) (Nat.le_of_ble_eq_true rfl) ?_
  refine rw_mmax 19 dX1_answerHeld_19 lX1_87 stJ9_max_7cf53 iiJ9_max_7cf53 coJ9_max_7cf53 (by decide) (Nat.le_of_ble_eq_true rfl) ?_
  exact rn_iret2 22 dX1_answerHeld_22 rfl h
