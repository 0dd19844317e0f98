/-! ===== the signs' text ===== -/
def idxS (c : Int32) : Int32 := if c = 59 then 0 else if c = 61 then 1 else if c = 43 then 2 else if c = 45 then 3 else if c = 42 then 4 else if c = 47 then 5 else if c = 60 then 6 else if c = 40 then 7 else if c = 41 then 8 else -1
theorem rw_ldcS {M : MR} {d n0 n1 : Nat} (pc : Nat) {L : List (Nat × Value)} {st : List Value} {σ : PS} {Q : Option Value → PS → Prop} (hd : decode M.2.1 pc = .ok (.ldc 76, 2)) (hM : M.1.cls = RX8) (k : RW M d n0 n1 (pc + 2) L (.ref 1003 :: st) σ Q) : RW M d n0 n1 pc L st σ Q := by
  intro w p l e R s m args below meth c H locs ls hw hf hR hH hn hlo hL
  exact va_ldcS hf.1 hf.2.1 (by rw [← hM]; exact hf.2.2.2.1) hf.2.2.2.2.2.2.2.2.2.2.2.2.1 hd (k w p l e R s m args below meth c H locs ls hw hf hR hH hn hlo hL)
theorem rw_ldcW {M : MR} {d n0 n1 : Nat} (pc : Nat) {L : List (Nat × Value)} {st : List Value} {σ : PS} {Q : Option Value → PS → Prop} (hd : decode M.2.1 pc = .ok (.ldc 29, 2)) (hM : M.1.cls = RX8) (k : RW M d n0 n1 (pc + 2) L (.ref 1001 :: st) σ Q) : RW M d n0 n1 pc L st σ Q := by
  intro w p l e R s m args below meth c H locs ls hw hf hR hH hn hlo hL
  exact va_ldcS hf.1 hf.2.1 (by rw [← hM]; exact hf.2.2.2.1) hf.2.2.2.2.2.2.2.2.2.2.2.1 hd (k w p l e R s m args below meth c H locs ls hw hf hR hH hn hlo hL)
/-! ===== the texts of the class: the JDK's own methods on them ===== -/
theorem strK {M : MR} {w : Wd} {p : Program} {s : State} {m : MethodId} {args : Array Value} {meth : Method} {c : Code} {σ : PS} {H : Heap} (hf : FrOK M w p s m args meth c) (hH : Rel w σ H) : vk_S 2 [116, 9] [byW, byS] (fun i => w.2.1 (1001 + 2 * i)) (fun i => w.2.1 (1002 + 2 * i)) (fun q => w.1 ≤ q) s H :=
  hf.2.2.2.2.2.2.2.2.2.2.2.2.2.1.kept (fun a _ ha => hH.2.2.1 a (Nat.not_le.mp ha))
section SX
variable {M : MR} {d n0 n1 : Nat} (pc : Nat) {L : List (Nat × Value)} {st : List Value} {σ : PS} {Q : Option Value → PS → Prop}
theorem rw_xval (i : Nat) (hi : i < 2) (hd : decode M.2.1 pc = .ok (.getfield 9, 3)) (hM : M.1.cls = RJ0) (k : RW M d n0 n1 (pc + 3) L (.ref (1002 + 2 * i) :: st) σ Q) : RW M d n0 n1 pc L (.ref (1001 + 2 * i) :: st) σ Q := by
  intro w p l e R s m args below meth c H locs ls hw hf hR hH hn hlo hL
  obtain ⟨cf, kf, fi, f, cell, h1, h2, h3, h4, h5, h6⟩ := ((strK hf hH).1 i hi).2.2.1
  exact W.getf hf.1 hf.2.1 (by rw [← hM]; exact hf.2.2.2.1) (hf.2.2.2.2.1 _ fJ0_9) h1 h2 h3 h4 h5 rfl rfl hd (k w p l e R s m args below meth c H locs ls hw hf hR hH hn hlo hL)
theorem rw_xcod (i : Nat) (hi : i < 2) (hd : decode M.2.1 pc = .ok (.getfield 15, 3)) (hM : M.1.cls = RJ0) (k : RW M d n0 n1 (pc + 3) L (.int 0 :: st) σ Q) : RW M d n0 n1 pc L (.ref (1001 + 2 * i) :: st) σ Q := by
  intro w p l e R s m args below meth c H locs ls hw hf hR hH hn hlo hL
  obtain ⟨cf, kf, fi, f, cell, h1, h2, h3, h4, h5, h6⟩ := ((strK hf hH).1 i hi).2.1
  exact W.getf hf.1 hf.2.1 (by rw [← hM]; exact hf.2.2.2.1) (hf.2.2.2.2.1 _ fJ0_15) h1 h2 h3 h4 h5 rfl rfl hd (k w p l e R s m args below meth c H locs ls hw hf hR hH hn hlo hL)
theorem rw_xcs (hd : decode M.2.1 pc = .ok (.getstatic 38, 3)) (hM : M.1.cls = RJ0) (k : RW M d n0 n1 (pc + 3) L (.int 1 :: st) σ Q) : RW M d n0 n1 pc L st σ Q := by
  intro w p l e R s m args below meth c H locs ls hw hf hR hH hn hlo hL
  obtain ⟨cf, kf, fi, f, a, cell, h1, h2, h3, h4, h5, h6, h7, h8⟩ := hf.2.2.2.2.2.2.2.2.2.2.2.2.2.2.1
  exact W.gets hf.1 hf.2.1 (by rw [← hM]; exact hf.2.2.2.1) (hf.2.2.2.2.1 _ fJ0_38) h1 h2 h3 h4 (by rw [hH.2.2.1 a (Nat.not_le.mp h8)]; exact h5) (fun e => by rw [e] at h6; cases h6) h7 rfl hd (k w p l e R s m args below meth c H locs ls hw hf hR hH hn hlo hL)
theorem rw_xlen (i : Nat) (hi : i < 2) (hd : decode M.2.1 pc = .ok (.arraylength, 1)) (k : RW M d n0 n1 (pc + 1) L (.int (Int32.ofNat (([116, 9] : List Nat).getD i 0)) :: st) σ Q) : RW M d n0 n1 pc L (.ref (1002 + 2 * i) :: st) σ Q := by
  intro w p l e R s m args below meth c H locs ls hw hf hR hH hn hlo hL
  obtain ⟨cell, h1, h2, h3, h4, h5, h6, h7⟩ := ((strK hf hH).1 i hi).2.2.2
  exact W.alen hf.1 hf.2.1 h1 h2 h5 rfl rfl hd (k w p l e R s m args below meth c H locs ls hw hf hR hH hn hlo hL)
theorem rw_xbyt (i : Nat) (hi : i < 2) {j : Int32} (hd : decode M.2.1 pc = .ok (.baload, 1)) (hj : inb j (([116, 9] : List Nat).getD i 0)) (k : RW M d n0 n1 (pc + 1) L (.int ((([byW, byS] : List (List Int32)).getD i []).getD j.toNatClampNeg 0) :: st) σ Q) : RW M d n0 n1 pc L (.int j :: .ref (1002 + 2 * i) :: st) σ Q := by
  intro w p l e R s m args below meth c H locs ls hw hf hR hH hn hlo hL
  obtain ⟨cell, h1, h2, h3, h4, h5, h6, h7⟩ := ((strK hf hH).1 i hi).2.2.2
  exact W.bald hf.1 hf.2.1 h1 h2 h3 (fun q => hj (q.imp id (fun z => Nat.le_trans h4 z))) (h6 _ (inb_lt hj)) rfl rfl hd (k w p l e R s m args below meth c H locs ls hw hf hR hH hn hlo hL)
theorem rw_callVX {N : MR} {idx : Nat} {v : Value} (d' i : Nat) (hi : i < 2) (As : List Value) {rest : List Value} (hd : decode M.2.1 pc = .ok (.invokevirtual idx, 3)) (hN : CaOK N) (hNc : N.1.cls = RJ0) (hlk : Cond.methodLink M.1.cls idx N.1 ∈ WL) (hins : Cond.instanceMethod N.1 ∈ WL) (hsel : Cond.selects N.1.cls N.1 N.1 ∈ WL) (hst : st = As.reverse ++ .ref (1001 + 2 * i) :: rest) (hna : (parseMethodDescriptor N.1.desc).map (fun q => q.parameters.length) = some As.length) (hsl : (lg_sl (.ref (1001 + 2 * i) :: As)).length ≤ N.2.2.1) (hr8 : (rest.map fun v => v.category).sum ≤ 8) (hdd : d' < d)
    (hc : Ct N d' σ.2.2 σ.2.2 (.ref (1001 + 2 * i) :: As) σ (fun r σ2 => r = some v ∧ σ2 = σ)) (k : RW M d n0 n1 (pc + 3) L (v :: rest) σ Q) : RW M d n0 n1 pc L st σ Q := by
  subst hst
  intro w p l e R s m args below meth c H locs ls hw hf hR hH hn hlo hL
  have hts := hf.2.2.2.2.1
  have m3 := szs_mono hn.1
  have m4 := szs_mono hn.2.1
  obtain ⟨cell, g1, g2, g3, -⟩ := ((strK hf hH).1 i hi).1
  have hM := hc.met (w := w) hN.2.2.1 hsl hw rfl (Nat.le_refl _) (by omega) l
  have e0 : (As.reverse ++ Value.ref (1001 + 2 * i) :: rest).map (vmp w) = (As.map (vmp w)).reverse ++ .ref (w.2.1 (1001 + 2 * i)) :: rest.map (vmp w) := by rw [List.map_append, List.map_reverse]; rfl
  rw [e0]
  refine after_call pc hw hf hR hn (Nat.le_refl _) hn.2.1 hlo hL (va_runV (As := As.map (vmp w)) (rest := rest.map (vmp w)) (Ts := WL) ⟨hf.1, hf.2.1, hf.2.2.1, hf.2.2.2.1, hts⟩ hM ⟨callB_wl hf hR hN hlk hdd hna, hts _ hins, hts _ hsel⟩ ⟨PcO_blind w _ σ, ⟨cell, g1, g2, by rw [hNc]; exact g3⟩, fun U hU hW => ⟨rfl, by rw [hU]; exact hH, hf.2.2.2.2.2.2.2.2.warm hW⟩⟩ rfl (by rw [List.length_map]) hL.1 rfl ?_ hd ⟨by have := hR.2.2.1; omega, by have := hR.2.2.2; omega⟩) ?_
  · show 2 * 0 + ((rest.map (vmp w)).map fun v => v.category).sum ≤ 8
    rw [vmp_sum]
    omega
  · rintro r σ2 ⟨rfl, rfl⟩ _
    exact k
theorem rw_callSX {N : MR} {idx : Nat} {v : Option Value} (d' : Nat) (As : List Value) {rest : List Value} (hd : decode M.2.1 pc = .ok (.invokestatic idx, 3)) (hN : CaOK N) (hlk : Cond.methodLink M.1.cls idx N.1 ∈ WL) (hstat : Cond.static N.1 ∈ WL) (hst : st = As.reverse ++ rest) (hna : (parseMethodDescriptor N.1.desc).map (fun q => q.parameters.length) = some As.length) (hsl : (lg_sl As).length ≤ N.2.2.1) (hr8 : (rest.map fun v => v.category).sum ≤ 8) (hdd : d' < d) (hle : σ.2.2 ≤ n1)
    (hc : Ct N d' σ.2.2 σ.2.2 As σ (fun r σ2 => r = v ∧ σ2 = σ)) (k : RW M d n0 n1 (pc + 3) L (v.toList ++ rest) σ Q) : RW M d n0 n1 pc L st σ Q :=
  rw_callS pc As hd hN hlk hstat hst hna hsl hr8 hdd (Nat.le_refl _) hle hc (fun r σ2 h _ => by obtain ⟨rfl, rfl⟩ := h; exact k)
end SX
/-! the role 1005: what the formatter's static field holds -/
def shR (k : Nat) : Nat := if k < 1005 then k else k + 1
def shW (w : Wd) (t : Nat) : Wd := (w.1, fun k => if k < 1005 then w.2.1 k else if k = 1005 then t else w.2.1 (k - 1), w.2.2)
def shS (σ : PS) : PS := (σ.1, fun k j => (σ.2.1 k j).map shR, σ.2.2)
theorem shW_lo (w : Wd) (t : Nat) {k : Nat} (h : k < 1005) : (shW w t).2.1 k = w.2.1 k := if_pos h
theorem shW_sh (w : Wd) (t k : Nat) : (shW w t).2.1 (shR k) = w.2.1 k := by
  unfold shR
  by_cases c : k < 1005
  · rw [if_pos c]; exact if_pos c
  · rw [if_neg c]
    show (if k + 1 < 1005 then w.2.1 (k + 1) else if k + 1 = 1005 then t else w.2.1 (k + 1 - 1)) = _
    rw [if_neg (by omega), if_neg (by omega), Nat.add_sub_cancel]
theorem shW_map (w : Wd) (t : Nat) (o : Option Nat) : (o.map shR).map (shW w t).2.1 = o.map w.2.1 := by
  cases o with
  | none => rfl
  | some k => exact congrArg some (shW_sh w t k)
theorem fv_sh (w : Wd) (t : Nat) (σ : PS) (k ci j : Nat) : fv (shW w t) (shS σ) k ci j = fv w σ k ci j := by
  unfold fv
  rw [show ((shS σ).2.1 k j).map (shW w t).2.1 = (σ.2.1 k j).map w.2.1 from shW_map w t _]
  rfl
theorem av_sh (w : Wd) (t : Nat) (σ : PS) (k ty j : Nat) : av (shW w t) (shS σ) k ty j = av w σ k ty j := by
  unfold av
  rw [show ((shS σ).2.1 k j).map (shW w t).2.1 = (σ.2.1 k j).map w.2.1 from shW_map w t _]
  rfl
theorem cellR_sh {w : Wd} {t : Nat} {σ : PS} {H : Heap} {k : Nat} (hk : k < 1005) : cellR (shW w t) (shS σ) H k ↔ cellR w σ H k := by
  unfold cellR
  cases lay k with
  | inl ci =>
    show t_OB ((shW w t).2.1 k) (w.2.2.1.1 ci) (nfl ci) (w.2.2.1.2 ci) H (fun j => fv (shW w t) (shS σ) k ci j) ↔ _
    rw [shW_lo w t hk, show (fun j => fv (shW w t) (shS σ) k ci j) = (fun j => fv w σ k ci j) from funext fun j => fv_sh w t σ k ci j]
  | inr q =>
    show H[(shW w t).2.1 k]? = some (arrV (w.2.2.2.1 q.1) q.2 (fun j => av (shW w t) (shS σ) k q.1 j)) ↔ _
    rw [shW_lo w t hk, show (fun j => av (shW w t) (shS σ) k q.1 j) = (fun j => av w σ k q.1 j) from funext fun j => av_sh w t σ k q.1 j]
theorem rel_sh {w : Wd} {t : Nat} {σ : PS} {H : Heap} : Rel (shW w t) (shS σ) H ↔ Rel w σ H := by
  constructor
  · rintro ⟨h1, h2, h3, h4, h5⟩
    have h1' : σ.2.2 ≤ 289 := h1
    refine ⟨h1, fun k hk => (cellR_sh (by omega)).1 (h2 k hk), h3, h4, fun j hj => ?_⟩
    have hj' : σ.2.2 + j < 289 := hj
    have := h5 j hj
    rw [← shW_lo w t (show σ.2.2 + j < 1005 by omega)]
    exact this
  · rintro ⟨h1, h2, h3, h4, h5⟩
    have h1' : σ.2.2 ≤ 289 := h1
    refine ⟨h1, fun k hk => (cellR_sh (by have hk' : k < σ.2.2 := hk; omega)).2 (h2 k hk), h3, h4, fun j hj => ?_⟩
    have hj' : σ.2.2 + j < 289 := hj
    show (shW w t).2.1 (σ.2.2 + j) = _
    rw [shW_lo w t (by omega)]
    exact h5 j hj
theorem wok_sh {w : Wd} {t : Nat} (h : WOK w) : WOK (shW w t) := by
  refine ⟨fun i j hi hj e => ?_, fun k hk => ?_⟩
  · have hi' : i < 289 := hi
    have hj' : j < 289 := hj
    rw [shW_lo w t (by omega), shW_lo w t (by omega)] at e
    exact h.1 i j hi hj e
  · have hk' : k < 289 := hk
    rw [shW_lo w t (by omega)]
    exact h.2 k hk
theorem ex_sh {w : Wd} {t : Nat} {s : State} (h : EX w s) : EX (shW w t) s := by
  obtain ⟨h1, h2, h3, h4, h5, L, xs, h6, h7⟩ := h
  refine ⟨by rw [shW_lo w t (by omega)]; exact h1, by rw [shW_lo w t (by omega)]; exact h2, ⟨fun i hi => ?_, fun i j hi hj e => ?_⟩, h4, h5, L, xs, by rw [shW_lo w t (by omega)]; exact h6, by rw [shW_lo w t (by omega)]; exact h7⟩
  · dsimp only
    rw [shW_lo w t (by omega), shW_lo w t (by omega)]
    exact h3.1 i hi
  · dsimp only at e
    rw [shW_lo w t (by omega), shW_lo w t (by omega)] at e
    exact h3.2 i j hi hj e
theorem frok_sh {M : MR} {w : Wd} {t : Nat} {p : Program} {s : State} {m : MethodId} {args : Array Value} {meth : Method} {c : Code} (h : FrOK M w p s m args meth c) : FrOK M (shW w t) p s m args meth c := by
  obtain ⟨h1, h2, h3, h4, h5, h6, h7, h8, k1, k2, k3, k4⟩ := h
  exact ⟨h1, h2, h3, h4, h5, h6, h7, h8, k1, k2, k3, ex_sh k4⟩
/-! the methods -/
theorem w_pchk {d : Nat} {i n : Int32} (h0 : ¬ i < 0) (h1 : i < n) {V : Value} (hV : V = .null ∨ V = .ref 1005) {σ : PS} : Ct mJ3_checkIndex_8e157 d σ.2.2 σ.2.2 [.int i, .int n, V] σ (fun r σ2 => r = some (.int i) ∧ σ2 = σ) := by
  show RW mJ3_checkIndex_8e157 d σ.2.2 σ.2.2 0 [(0, .int i), (1, .int n), (2, V)] [] σ _
  refine rw_iload_n 0 dJ3_checkIndex_8e157_0 0 rfl ?_
  refine rw_if_lt 1 9 dJ3_checkIndex_8e157_1 (by decide) (fun h => absurd h h0) (fun _ => ?_)
  refine rw_iload_n 4 dJ3_checkIndex_8e157_4 0 rfl ?_
  refine rw_iload_n 5 dJ3_checkIndex_8e157_5 1 rfl ?_
  refine rw_icmp_lt 6 16 dJ3_checkIndex_8e157_6 (by decide) (fun _ => ?_) (fun h => absurd h1 h)
  refine rw_iload_n 16 dJ3_checkIndex_8e157_16 0 rfl ?_
  exact rw_iret 17 dJ3_checkIndex_8e157_17 rfl rfl ⟨rfl, rfl⟩
theorem w_chk {d : Nat} (hd : 0 < d) {i n : Int32} (h0 : ¬ i < 0) (h1 : i < n) {σ : PS} : Ct mJ0_checkIndex_df160 d σ.2.2 σ.2.2 [.int i, .int n] σ (fun r σ2 => r = none ∧ σ2 = σ) := by
  have key : ∀ (V : Value), V = .null ∨ V = .ref 1005 → ∀ τ : PS, RW mJ0_checkIndex_df160 d τ.2.2 τ.2.2 5 [(0, .int i), (1, .int n)] [V, .int n, .int i] τ (fun r σ2 => r = none ∧ σ2 = τ) := by
    intro V hV τ
    refine rw_callSX (v := some (.int i)) 5 0 [.int i, .int n, V] (rest := []) dJ0_checkIndex_df160_5 caJ3_checkIndex_8e157 lJ0_1059 stJ3_checkIndex_8e157 rfl naJ3_checkIndex_8e157 (by rcases hV with rfl | rfl <;> exact Nat.le_of_ble_eq_true rfl) (Nat.le_of_ble_eq_true rfl) hd (Nat.le_refl _) (w_pchk h0 h1 hV) ?_
    refine rw_pop 8 dJ0_checkIndex_df160_8 rfl ?_
    exact rw_vret 9 dJ0_checkIndex_df160_9 rfl rfl ⟨rfl, rfl⟩
  show RW mJ0_checkIndex_df160 d σ.2.2 σ.2.2 0 [(0, .int i), (1, .int n)] [] σ _
  refine rw_iload_n 0 dJ0_checkIndex_df160_0 0 rfl ?_
  refine rw_iload_n 1 dJ0_checkIndex_df160_1 1 rfl ?_
  intro w p l e R s m args below meth c H locs ls hw hf hR hH hn hlo hL
  rcases hf.2.2.2.2.2.2.2.2.2.2.2.2.2.2.2.1 with hz | ⟨t, hz⟩
  · obtain ⟨cf, kf, fi, f, a, cell, z1, z2, z3, z4, z5, z6, z7, z8⟩ := hz
    exact W.gets hf.1 hf.2.1 hf.2.2.2.1 (hf.2.2.2.2.1 _ fJ0_1053) z1 z2 z3 z4 (by rw [hH.2.2.1 a (Nat.not_le.mp z8)]; exact z5) (fun e => by rw [e] at z6; cases z6) z7 rfl dJ0_checkIndex_df160_2 (key .null (Or.inl rfl) σ w p l e R s m args below meth c H locs ls hw hf hR hH hn hlo hL)
  · obtain ⟨cf, kf, fi, f, a, cell, z1, z2, z3, z4, z5, z6, z7, z8⟩ := hz
    refine W.gets hf.1 hf.2.1 hf.2.2.2.1 (hf.2.2.2.2.1 _ fJ0_1053) z1 z2 z3 z4 (by rw [hH.2.2.1 a (Nat.not_le.mp z8)]; exact z5) (fun e => by rw [e] at z6; cases z6) z7 rfl dJ0_checkIndex_df160_2 ?_
    intro T hT X
    obtain ⟨t2, a1, o, b1, b2, ⟨r, σ2, ⟨q1, q2⟩, q3, q4, q5⟩, q6⟩ := key (.ref 1005) (Or.inr rfl) (shS σ) (shW w t) p l e R s m args below meth c H locs ls (wok_sh hw) (frok_sh hf) hR (rel_sh.2 hH) hn hlo hL T hT X
    subst q1
    subst q2
    exact ⟨t2, a1, o, b1, b2, ⟨none, σ, ⟨rfl, rfl⟩, rfl, q4, rel_sh.1 q5⟩, q6⟩
theorem w_isLat {d i : Nat} (hi : i < 2) {σ : PS} : Ct mJ0_isLatin1_aae02 d σ.2.2 σ.2.2 [.ref (1001 + 2 * i)] σ (fun r σ2 => r = some (.int 1) ∧ σ2 = σ) := by
  show RW mJ0_isLatin1_aae02 d σ.2.2 σ.2.2 0 [(0, .ref (1001 + 2 * i))] [] σ _
  refine rw_xcs 0 dJ0_isLatin1_aae02_0 rfl ?_
  refine rw_if_eq 3 17 dJ0_isLatin1_aae02_3 (by decide) (fun h => absurd h (by decide)) (fun _ => ?_)
  refine rw_aload_n 6 dJ0_isLatin1_aae02_6 0 rfl ?_
  refine rw_xcod 7 i hi dJ0_isLatin1_aae02_7 rfl ?_
  refine rw_if_ne 10 17 dJ0_isLatin1_aae02_10 (by decide) (fun h => absurd rfl h) (fun _ => ?_)
  refine rw_iconst 13 (v := 1) dJ0_isLatin1_aae02_13 (by decide) ?_
  refine rw_goto 14 18 dJ0_isLatin1_aae02_14 (by decide) ?_
  exact rw_zret 18 dJ0_isLatin1_aae02_18 rfl rfl rfl ⟨rfl, rfl⟩
theorem w_coder {d i : Nat} (hi : i < 2) {σ : PS} : Ct mJ0_coder_7d493 d σ.2.2 σ.2.2 [.ref (1001 + 2 * i)] σ (fun r σ2 => r = some (.int 0) ∧ σ2 = σ) := by
  show RW mJ0_coder_7d493 d σ.2.2 σ.2.2 0 [(0, .ref (1001 + 2 * i))] [] σ _
  refine rw_xcs 0 dJ0_coder_7d493_0 rfl ?_
  refine rw_if_eq 3 13 dJ0_coder_7d493_3 (by decide) (fun h => absurd h (by decide)) (fun _ => ?_)
  refine rw_aload_n 6 dJ0_coder_7d493_6 0 rfl ?_
  refine rw_xcod 7 i hi dJ0_coder_7d493_7 rfl ?_
  refine rw_goto 10 14 dJ0_coder_7d493_10 (by decide) ?_
  exact rw_zret 14 dJ0_coder_7d493_14 rfl rfl rfl ⟨rfl, rfl⟩
theorem w_len {d i : Nat} (hd : 0 < d) (hi : i < 2) {σ : PS} : Ct mJ0_length_8abf5 d σ.2.2 σ.2.2 [.ref (1001 + 2 * i)] σ (fun r σ2 => r = some (.int (Int32.ofNat (([116, 9] : List Nat).getD i 0) >>> ((0 : Int32) &&& 31))) ∧ σ2 = σ) := by
  show RW mJ0_length_8abf5 d σ.2.2 σ.2.2 0 [(0, .ref (1001 + 2 * i))] [] σ _
  refine rw_aload_n 0 dJ0_length_8abf5_0 0 rfl ?_
  refine rw_xval 1 i hi dJ0_length_8abf5_1 rfl ?_
  refine rw_xlen 4 i hi dJ0_length_8abf5_4 ?_
  refine rw_aload_n 5 dJ0_length_8abf5_5 0 rfl ?_
  refine rw_callVX 6 0 i hi [] (v := .int 0) dJ0_length_8abf5_6 caJ0_coder_7d493 rfl lJ0_335 inJ0_coder_7d493 slJ0_coder_7d493 rfl naJ0_coder_7d493 (Nat.le_of_ble_eq_true rfl) (Nat.le_of_ble_eq_true rfl) hd (w_coder hi) ?_
  refine rw_ishr 9 dJ0_length_8abf5_9 ?_
  exact rw_iret 10 dJ0_length_8abf5_10 rfl rfl ⟨rfl, rfl⟩
theorem chW_all : ∀ k, k < 116 → ((byW.getD k 0 &&& 255).toUInt32 % 65536).toInt32 = byW.getD k 0 ∧ (byW.getD k 0).toUInt32.toUInt16.toUInt32.toInt32 = byW.getD k 0 := by decide +kernel
theorem narC {x : Int32} (h : x.toUInt32.toUInt16.toUInt32.toInt32 = x) : narrow .char (.int x) = .int x := by
  show Value.int _ = Value.int x
  exact congrArg Value.int h
theorem w_latC {d : Nat} (hd : 1 < d) {j : Int32} (hj : inb j 116) {σ : PS} : Ct mJ1_charAt_3b067 d σ.2.2 σ.2.2 [.ref 1002, .int j] σ (fun r σ2 => r = some (.int (byW.getD j.toNatClampNeg 0)) ∧ σ2 = σ) := by
  have h0 : ¬ j < 0 := fun q => hj (Or.inl q)
  have hk : j.toNatClampNeg < 116 := inb_lt hj
  have h1 : j < Int32.ofNat 116 := by
    obtain ⟨n, hn, rfl⟩ := nI_of h0
    rw [nI_clamp hn] at hk
    exact nI_lt hk (by omega)
  obtain ⟨c1, c2⟩ := chW_all _ hk
  show RW mJ1_charAt_3b067 d σ.2.2 σ.2.2 0 [(0, .ref 1002), (1, .int j)] [] σ _
  refine rw_iload_n 0 dJ1_charAt_3b067_0 1 rfl ?_
  refine rw_aload_n 1 dJ1_charAt_3b067_1 0 rfl ?_
  refine rw_xlen 2 0 (by decide) dJ1_charAt_3b067_2 ?_
  refine rw_callSX (v := none) 3 1 [.int j, .int (Int32.ofNat 116)] (rest := []) dJ1_charAt_3b067_3 caJ0_checkIndex_df160 lJ1_9 stJ0_checkIndex_df160 rfl naJ0_checkIndex_df160 (Nat.le_of_ble_eq_true rfl) (Nat.le_of_ble_eq_true rfl) hd (Nat.le_refl _) (w_chk (by decide) h0 h1) ?_
  refine rw_aload_n 6 dJ1_charAt_3b067_6 0 rfl ?_
  refine rw_iload_n 7 dJ1_charAt_3b067_7 1 rfl ?_
  refine rw_xbyt 8 0 (by decide) dJ1_charAt_3b067_8 hj ?_
  refine rw_sipush 9 (v := 255) dJ1_charAt_3b067_9 (by decide) ?_
  refine rw_iand 12 dJ1_charAt_3b067_12 ?_
  refine rw_i2c 13 dJ1_charAt_3b067_13 ?_
  show RW mJ1_charAt_3b067 d σ.2.2 σ.2.2 14 _ [.int ((byW.getD j.toNatClampNeg 0 &&& 255).toUInt32 % 65536).toInt32] σ _
  rw [c1]
  exact rw_zret 14 dJ1_charAt_3b067_14 rfl rfl (narC c2) ⟨rfl, rfl⟩
theorem w_chrW {d : Nat} (hd : 2 < d) {j : Int32} (hj : inb j 116) {σ : PS} : Ct mJ0_charAt_5068e d σ.2.2 σ.2.2 [.ref 1001, .int j] σ (fun r σ2 => r = some (.int (byW.getD j.toNatClampNeg 0)) ∧ σ2 = σ) := by
  obtain ⟨c1, c2⟩ := chW_all _ (inb_lt hj)
  show RW mJ0_charAt_5068e d σ.2.2 σ.2.2 0 [(0, .ref 1001), (1, .int j)] [] σ _
  refine rw_aload_n 0 dJ0_charAt_5068e_0 0 rfl ?_
  refine rw_callVX 1 0 0 (by decide) [] (v := .int 1) dJ0_charAt_5068e_1 caJ0_isLatin1_aae02 rfl lJ0_492 inJ0_isLatin1_aae02 slJ0_isLatin1_aae02 rfl naJ0_isLatin1_aae02 (Nat.le_of_ble_eq_true rfl) (Nat.le_of_ble_eq_true rfl) (by omega) (w_isLat (by decide)) ?_
  refine rw_if_eq 4 16 dJ0_charAt_5068e_4 (by decide) (fun h => absurd h (by decide)) (fun _ => ?_)
  refine rw_aload_n 7 dJ0_charAt_5068e_7 0 rfl ?_
  refine rw_xval 8 0 (by decide) dJ0_charAt_5068e_8 rfl ?_
  refine rw_iload_n 11 dJ0_charAt_5068e_11 1 rfl ?_
  refine rw_callSX (v := some (.int (byW.getD j.toNatClampNeg 0))) 12 2 [.ref 1002, .int j] (rest := []) dJ0_charAt_5068e_12 caJ1_charAt_3b067 lJ0_495 stJ1_charAt_3b067 rfl naJ1_charAt_3b067 (Nat.le_of_ble_eq_true rfl) (Nat.le_of_ble_eq_true rfl) hd (Nat.le_refl _) (w_latC (by decide) hj) ?_
  exact rw_zret 15 dJ0_charAt_5068e_15 rfl rfl (narC c2) ⟨rfl, rfl⟩
theorem rw_lenW {M : MR} {d n0 n1 : Nat} (pc : Nat) {L : List (Nat × Value)} {st : List Value} {σ : PS} {Q : Option Value → PS → Prop} (hd : decode M.2.1 pc = .ok (.invokevirtual 31, 3)) (hM : M.1.cls = RX8) (hdd : 6 < d) (hs : (st.map fun v => v.category).sum ≤ 8) (k : RW M d n0 n1 (pc + 3) L (.int 116 :: st) σ Q) : RW M d n0 n1 pc L (.ref 1001 :: st) σ Q :=
  rw_callVX pc 1 0 (by decide) [] (v := .int 116) hd caJ0_length_8abf5 rfl (by rw [hM]; exact lX8_31) inJ0_length_8abf5 slJ0_length_8abf5 rfl naJ0_length_8abf5 (Nat.le_of_ble_eq_true rfl) hs (by omega) (w_len (i := 0) (by decide) (by decide)) k
theorem rw_chrW {M : MR} {d n0 n1 : Nat} (pc : Nat) {L : List (Nat × Value)} {st : List Value} {σ : PS} {Q : Option Value → PS → Prop} {i : Int32} (hd : decode M.2.1 pc = .ok (.invokevirtual 37, 3)) (hM : M.1.cls = RX8) (hdd : 6 < d) (hs : (st.map fun v => v.category).sum ≤ 8) (hi : inb i 116) (k : RW M d n0 n1 (pc + 3) L (.int (byW.getD i.toNatClampNeg 0) :: st) σ Q) : RW M d n0 n1 pc L (.int i :: .ref 1001 :: st) σ Q :=
  rw_callVX pc 3 0 (by decide) [.int i] (v := .int (byW.getD i.toNatClampNeg 0)) hd caJ0_charAt_5068e rfl (by rw [hM]; exact lX8_37) inJ0_charAt_5068e slJ0_charAt_5068e rfl naJ0_charAt_5068e (Nat.le_of_ble_eq_true rfl) hs (by omega) (w_chrW (by decide) hi) k
/-! indexOf -/
theorem w_canY {d : Nat} {c : Int32} (h0 : ¬ c < 0) (h1 : ¬ 255 < c) {σ : PS} : Ct mJ1_canEncode_9a6ad d σ.2.2 σ.2.2 [.int c] σ (fun r σ2 => r = some (.int 1) ∧ σ2 = σ) := by
  show RW mJ1_canEncode_9a6ad d σ.2.2 σ.2.2 0 [(0, .int c)] [] σ _
  refine rw_iload_n 0 dJ1_canEncode_9a6ad_0 0 rfl ?_
  refine rw_if_lt 1 15 dJ1_canEncode_9a6ad_1 (by decide) (fun h => absurd h h0) (fun _ => ?_)
  refine rw_iload_n 4 dJ1_canEncode_9a6ad_4 0 rfl ?_
  refine rw_sipush 5 (v := 255) dJ1_canEncode_9a6ad_5 (by decide) ?_
  refine rw_icmp_gt 8 15 dJ1_canEncode_9a6ad_8 (by decide) (fun h => absurd h h1) (fun _ => ?_)
  refine rw_iconst 11 (v := 1) dJ1_canEncode_9a6ad_11 (by decide) ?_
  refine rw_goto 12 16 dJ1_canEncode_9a6ad_12 (by decide) ?_
  exact rw_zret 16 dJ1_canEncode_9a6ad_16 rfl rfl rfl ⟨rfl, rfl⟩
theorem w_canN {d : Nat} {c : Int32} (h : c < 0 ∨ 255 < c) {σ : PS} : Ct mJ1_canEncode_9a6ad d σ.2.2 σ.2.2 [.int c] σ (fun r σ2 => r = some (.int 0) ∧ σ2 = σ) := by
  show RW mJ1_canEncode_9a6ad d σ.2.2 σ.2.2 0 [(0, .int c)] [] σ _
  have out : RW mJ1_canEncode_9a6ad d σ.2.2 σ.2.2 15 [(0, .int c)] [] σ (fun r σ2 => r = some (.int 0) ∧ σ2 = σ) := by
    refine rw_iconst 15 (v := 0) dJ1_canEncode_9a6ad_15 (by decide) ?_
    exact rw_zret 16 dJ1_canEncode_9a6ad_16 rfl rfl rfl ⟨rfl, rfl⟩
  refine rw_iload_n 0 dJ1_canEncode_9a6ad_0 0 rfl ?_
  refine rw_if_lt 1 15 dJ1_canEncode_9a6ad_1 (by decide) (fun _ => out) (fun h0 => ?_)
  refine rw_iload_n 4 dJ1_canEncode_9a6ad_4 0 rfl ?_
  refine rw_sipush 5 (v := 255) dJ1_canEncode_9a6ad_5 (by decide) ?_
  refine rw_icmp_gt 8 15 dJ1_canEncode_9a6ad_8 (by decide) (fun _ => out) (fun h1 => absurd h (fun q => q.elim h0 h1))
def ixS (b : Int32) : Nat → Nat → Int32
  | 0, _ => -1
  | r + 1, i => if byS.getD i 0 = b then nI i else ixS b r (i + 1)
theorem w_ixL {d : Nat} {c b : Int32} {σ : PS} : ∀ r i, i + r = 9 → RW mJ1_indexOfChar_4cfef d σ.2.2 σ.2.2 7 [(0, .ref 1004), (1, .int c), (2, .int 0), (3, .int 9), (4, .int b), (5, .int (nI i))] [] σ (fun ρ σ2 => ρ = some (.int (ixS b r i)) ∧ σ2 = σ)
  | 0, i, h => by
    have e : i = 9 := by omega
    subst e
    refine rw_iload 7 dJ1_indexOfChar_4cfef_7 5 rfl ?_
    refine rw_iload_n 9 dJ1_indexOfChar_4cfef_9 3 rfl ?_
    refine rw_icmp_ge 10 31 dJ1_indexOfChar_4cfef_10 (by decide) (fun _ => ?_) (fun q => absurd (show (9 : Int32) ≤ nI 9 by decide) q)
    refine rw_iconst 31 (v := -1) dJ1_indexOfChar_4cfef_31 (by decide) ?_
    exact rw_iret 32 dJ1_indexOfChar_4cfef_32 rfl rfl ⟨rfl, rfl⟩
  | r + 1, i, h => by
    have hb : inb (nI i) 9 := nI_in (by omega) (by omega)
    have hcl : (nI i).toNatClampNeg = i := nI_clamp (by omega)
    refine rw_iload 7 dJ1_indexOfChar_4cfef_7 5 rfl ?_
    refine rw_iload_n 9 dJ1_indexOfChar_4cfef_9 3 rfl ?_
    refine rw_icmp_ge 10 31 dJ1_indexOfChar_4cfef_10 (by decide) (fun q => absurd ((nI_leI (a := 9) (by omega) (by omega)).1 q) (by omega)) (fun _ => ?_)
    refine rw_aload_n 13 dJ1_indexOfChar_4cfef_13 0 rfl ?_
    refine rw_iload 14 dJ1_indexOfChar_4cfef_14 5 rfl ?_
    refine rw_xbyt 16 1 (by decide) dJ1_indexOfChar_4cfef_16 hb ?_
    refine rw_iload 17 dJ1_indexOfChar_4cfef_17 4 rfl ?_
    show RW mJ1_indexOfChar_4cfef d σ.2.2 σ.2.2 19 _ [.int b, .int (byS.getD (nI i).toNatClampNeg 0)] σ _
    rw [hcl, ixS]
    refine rw_icmp_ne 19 25 dJ1_indexOfChar_4cfef_19 (by decide) (fun q => ?_) (fun q => ?_)
    · rw [if_neg q]
      refine rw_iinc 25 [(0, .ref 1004), (1, .int c), (2, .int 0), (3, .int 9), (4, .int b), (5, .int (nI (i + 1)))] dJ1_indexOfChar_4cfef_25 5 rfl (show nI i + Int32.ofInt 1 = nI (i + 1) from nI_1 i) (by decide) rfl ?_
      refine rw_goto 28 7 dJ1_indexOfChar_4cfef_28 (by decide) ?_
      exact w_ixL r (i + 1) (by omega)
    · rw [if_pos q]
      refine rw_iload 22 dJ1_indexOfChar_4cfef_22 5 rfl ?_
      exact rw_iret 24 dJ1_indexOfChar_4cfef_24 rfl rfl ⟨rfl, rfl⟩
theorem w_ixC {d : Nat} {c : Int32} {σ : PS} : Ct mJ1_indexOfChar_4cfef d σ.2.2 σ.2.2 [.ref 1004, .int c, .int 0, .int 9] σ (fun r σ2 => r = some (.int (ixS c.toInt8.toInt32 9 0)) ∧ σ2 = σ) := by
  show RW mJ1_indexOfChar_4cfef d σ.2.2 σ.2.2 0 [(0, .ref 1004), (1, .int c), (2, .int 0), (3, .int 9)] [] σ _
  refine rw_iload_n 0 dJ1_indexOfChar_4cfef_0 1 rfl ?_
  refine rw_i2b 1 dJ1_indexOfChar_4cfef_1 ?_
  refine rw_istore 2 [(0, .ref 1004), (1, .int c), (2, .int 0), (3, .int 9), (4, .int c.toInt8.toInt32)] dJ1_indexOfChar_4cfef_2 (by decide) rfl ?_
  refine rw_iload_n 4 dJ1_indexOfChar_4cfef_4 2 rfl ?_
  refine rw_istore 5 [(0, .ref 1004), (1, .int c), (2, .int 0), (3, .int 9), (4, .int c.toInt8.toInt32), (5, .int (nI 0))] dJ1_indexOfChar_4cfef_5 (by decide) rfl ?_
  exact w_ixL 9 0 rfl
theorem ixS_all : ∀ n, n < 256 → ixS (nI n).toInt8.toInt32 9 0 = idxS (nI n) := by decide +kernel
theorem idxS_out {c : Int32} (h : c < 0 ∨ 255 < c) : idxS c = -1 := by
  have n : ∀ k : Int32, ¬ (k < 0 ∨ 255 < k) → ¬ c = k := fun k hk e => hk (e ▸ h)
  unfold idxS
  rw [if_neg (n 59 (by decide)), if_neg (n 61 (by decide)), if_neg (n 43 (by decide)), if_neg (n 45 (by decide)), if_neg (n 42 (by decide)), if_neg (n 47 (by decide)), if_neg (n 60 (by decide)), if_neg (n 40 (by decide)), if_neg (n 41 (by decide))]
theorem w_latI {d : Nat} (hd : 1 < d) {c : Int32} {σ : PS} : Ct mJ1_indexOf_4cfef d σ.2.2 σ.2.2 [.ref 1004, .int c, .int 0, .int 9] σ (fun r σ2 => r = some (.int (idxS c)) ∧ σ2 = σ) := by
  show RW mJ1_indexOf_4cfef d σ.2.2 σ.2.2 0 [(0, .ref 1004), (1, .int c), (2, .int 0), (3, .int 9)] [] σ _
  refine rw_iload_n 0 dJ1_indexOf_4cfef_0 1 rfl ?_
  by_cases h : c < 0 ∨ 255 < c
  · refine rw_callSX (v := some (.int 0)) 1 0 [.int c] (rest := []) dJ1_indexOf_4cfef_1 caJ1_canEncode_9a6ad lJ1_88 stJ1_canEncode_9a6ad rfl naJ1_canEncode_9a6ad (Nat.le_of_ble_eq_true rfl) (Nat.le_of_ble_eq_true rfl) (by omega) (Nat.le_refl _) (w_canN h) ?_
    refine rw_if_ne 4 9 dJ1_indexOf_4cfef_4 (by decide) (fun q => absurd rfl q) (fun _ => ?_)
    refine rw_iconst 7 (v := -1) dJ1_indexOf_4cfef_7 (by decide) ?_
    exact rw_iret 8 dJ1_indexOf_4cfef_8 rfl rfl ⟨by rw [idxS_out h], rfl⟩
  · have h0 : ¬ c < 0 := fun q => h (Or.inl q)
    have h1 : ¬ 255 < c := fun q => h (Or.inr q)
    have e : ixS c.toInt8.toInt32 9 0 = idxS c := by
      obtain ⟨n, hn, rfl⟩ := nI_of h0
      refine ixS_all n (Nat.lt_of_not_le fun q => h1 ?_)
      exact nI_lt (a := 255) (by omega) hn
    refine rw_callSX (v := some (.int 1)) 1 0 [.int c] (rest := []) dJ1_indexOf_4cfef_1 caJ1_canEncode_9a6ad lJ1_88 stJ1_canEncode_9a6ad rfl naJ1_canEncode_9a6ad (Nat.le_of_ble_eq_true rfl) (Nat.le_of_ble_eq_true rfl) (by omega) (Nat.le_refl _) (w_canY h0 h1) ?_
    refine rw_if_ne 4 9 dJ1_indexOf_4cfef_4 (by decide) (fun _ => ?_) (fun q => absurd q (by decide))
    refine rw_iload_n 9 dJ1_indexOf_4cfef_9 2 rfl ?_
    refine rw_iconst 10 (v := 0) dJ1_indexOf_4cfef_10 (by decide) ?_
    refine rw_mmax 11 dJ1_indexOf_4cfef_11 lJ1_92 stJ9_max_7cf53 iiJ9_max_7cf53 coJ9_max_7cf53 (by omega) (Nat.le_of_ble_eq_true rfl) ?_
    refine rw_istore_n 14 [(0, .ref 1004), (1, .int c), (2, .int 0), (3, .int 9)] dJ1_indexOf_4cfef_14 (by decide) rfl ?_
    refine rw_iload_n 15 dJ1_indexOf_4cfef_15 3 rfl ?_
    refine rw_aload_n 16 dJ1_indexOf_4cfef_16 0 rfl ?_
    refine rw_xlen 17 1 (by decide) dJ1_indexOf_4cfef_17 ?_
    refine rw_mmin 18 dJ1_indexOf_4cfef_18 lJ1_38 stJ9_min_7cf53 iiJ9_min_7cf53 coJ9_min_7cf53 (by omega) (Nat.le_of_ble_eq_true rfl) ?_
    refine rw_istore_n 21 [(0, .ref 1004), (1, .int c), (2, .int 0), (3, .int 9)] dJ1_indexOf_4cfef_21 (by decide) rfl ?_
    refine rw_iload_n 22 dJ1_indexOf_4cfef_22 2 rfl ?_
    refine rw_iload_n 23 dJ1_indexOf_4cfef_23 3 rfl ?_
    refine rw_icmp_lt 24 29 dJ1_indexOf_4cfef_24 (by decide) (fun _ => ?_) (fun q => absurd (show (0 : Int32) < 9 by decide) q)
    refine rw_aload_n 29 dJ1_indexOf_4cfef_29 0 rfl ?_
    refine rw_iload_n 30 dJ1_indexOf_4cfef_30 1 rfl ?_
    refine rw_iload_n 31 dJ1_indexOf_4cfef_31 2 rfl ?_
    refine rw_iload_n 32 dJ1_indexOf_4cfef_32 3 rfl ?_
    refine rw_callSX (v := some (.int (ixS c.toInt8.toInt32 9 0))) 33 0 [.ref 1004, .int c, .int 0, .int 9] (rest := []) dJ1_indexOf_4cfef_33 caJ1_indexOfChar_4cfef lJ1_95 stJ1_indexOfChar_4cfef rfl naJ1_indexOfChar_4cfef (Nat.le_of_ble_eq_true rfl) (Nat.le_of_ble_eq_true rfl) (by omega) (Nat.le_refl _) w_ixC ?_
    exact rw_iret 36 dJ1_indexOf_4cfef_36 rfl rfl ⟨by rw [e], rfl⟩
theorem w_idx2 {d : Nat} (hd : 2 < d) {c : Int32} {σ : PS} : Ct mJ0_indexOf_7cf53 d σ.2.2 σ.2.2 [.ref 1003, .int c, .int 0] σ (fun r σ2 => r = some (.int (idxS c)) ∧ σ2 = σ) := by
  show RW mJ0_indexOf_7cf53 d σ.2.2 σ.2.2 0 [(0, .ref 1003), (1, .int c), (2, .int 0)] [] σ _
  refine rw_aload_n 0 dJ0_indexOf_7cf53_0 0 rfl ?_
  refine rw_callVX 1 0 1 (by decide) [] (v := .int 1) dJ0_indexOf_7cf53_1 caJ0_isLatin1_aae02 rfl lJ0_492 inJ0_isLatin1_aae02 slJ0_isLatin1_aae02 rfl naJ0_isLatin1_aae02 (Nat.le_of_ble_eq_true rfl) (Nat.le_of_ble_eq_true rfl) (by omega) (w_isLat (by decide)) ?_
  refine rw_if_eq 4 23 dJ0_indexOf_7cf53_4 (by decide) (fun h => absurd h (by decide)) (fun _ => ?_)
  refine rw_aload_n 7 dJ0_indexOf_7cf53_7 0 rfl ?_
  refine rw_xval 8 1 (by decide) dJ0_indexOf_7cf53_8 rfl ?_
  refine rw_iload_n 11 dJ0_indexOf_7cf53_11 1 rfl ?_
  refine rw_iload_n 12 dJ0_indexOf_7cf53_12 2 rfl ?_
  refine rw_aload_n 13 dJ0_indexOf_7cf53_13 0 rfl ?_
  refine rw_callVX 14 1 1 (by decide) [] (v := .int 9) dJ0_indexOf_7cf53_14 caJ0_length_8abf5 rfl lJ0_505 inJ0_length_8abf5 slJ0_length_8abf5 rfl naJ0_length_8abf5 (Nat.le_of_ble_eq_true rfl) (Nat.le_of_ble_eq_true rfl) (by omega) (w_len (i := 1) (by decide) (by decide)) ?_
  refine rw_callSX (v := some (.int (idxS c))) 17 2 [.ref 1004, .int c, .int 0, .int 9] (rest := []) dJ0_indexOf_7cf53_17 caJ1_indexOf_4cfef lJ0_637 stJ1_indexOf_4cfef rfl naJ1_indexOf_4cfef (Nat.le_of_ble_eq_true rfl) (Nat.le_of_ble_eq_true rfl) hd (Nat.le_refl _) (w_latI (by decide)) ?_
  refine rw_goto 20 36 dJ0_indexOf_7cf53_20 (by decide) ?_
  exact rw_iret 36 dJ0_indexOf_7cf53_36 rfl rfl ⟨rfl, rfl⟩
theorem w_idx1 {d : Nat} (hd : 3 < d) {c : Int32} {σ : PS} : Ct mJ0_indexOf_0f7a4 d σ.2.2 σ.2.2 [.ref 1003, .int c] σ (fun r σ2 => r = some (.int (idxS c)) ∧ σ2 = σ) := by
  show RW mJ0_indexOf_0f7a4 d σ.2.2 σ.2.2 0 [(0, .ref 1003), (1, .int c)] [] σ _
  refine rw_aload_n 0 dJ0_indexOf_0f7a4_0 0 rfl ?_
  refine rw_iload_n 1 dJ0_indexOf_0f7a4_1 1 rfl ?_
  refine rw_iconst 2 (v := 0) dJ0_indexOf_0f7a4_2 (by decide) ?_
  refine rw_callVX 3 3 1 (by decide) [.int c, .int 0] (v := .int (idxS c)) dJ0_indexOf_0f7a4_3 caJ0_indexOf_7cf53 rfl lJ0_633 inJ0_indexOf_7cf53 slJ0_indexOf_7cf53 rfl naJ0_indexOf_7cf53 (Nat.le_of_ble_eq_true rfl) (Nat.le_of_ble_eq_true rfl) hd (w_idx2 (by decide)) ?_
  exact rw_iret 6 dJ0_indexOf_0f7a4_6 rfl rfl ⟨rfl, rfl⟩
theorem rw_idxS {M : MR} {d n0 n1 : Nat} (pc : Nat) {L : List (Nat × Value)} {st : List Value} {σ : PS} {Q : Option Value → PS → Prop} {c : Int32} (hd : decode M.2.1 pc = .ok (.invokevirtual 78, 3)) (hM : M.1.cls = RX8) (hdd : 6 < d) (hs : (st.map fun v => v.category).sum ≤ 8) (k : RW M d n0 n1 (pc + 3) L (.int (idxS c) :: st) σ Q) : RW M d n0 n1 pc L (.int c :: .ref 1003 :: st) σ Q :=
  rw_callVX pc 4 1 (by decide) [.int c] (v := .int (idxS c)) hd caJ0_indexOf_0f7a4 rfl (by rw [hM]; exact lX8_78) inJ0_indexOf_0f7a4 slJ0_indexOf_0f7a4 rfl naJ0_indexOf_0f7a4 (Nat.le_of_ble_eq_true rfl) hs (by omega) (w_idx1 (by decide)) k
