/-! ===== the law's entry: the world, and the claim out of STEPS ===== -/
theorem tb1 {w : Cond} (i : Nat) (h : tables_1_1[i]? = some w) : w ∈ lw_tbl := List.mem_append_right _ (by have h9 := List.mem_of_getElem? h; exact List.mem_append_left _ h9)
theorem tb2 {w : Cond} (i : Nat) (h : tables_1_2[i]? = some w) : w ∈ lw_tbl := List.mem_append_right _ (by have h9 := List.mem_of_getElem? h; exact List.mem_append_right _ (List.mem_append_left _ h9))
theorem tb3 {w : Cond} (i : Nat) (h : tables_1_3[i]? = some w) : w ∈ lw_tbl := List.mem_append_right _ (by have h9 := List.mem_of_getElem? h; exact List.mem_append_right _ (List.mem_append_right _ (List.mem_append_left _ h9)))
theorem tb4 {w : Cond} (i : Nat) (h : tables_1_4[i]? = some w) : w ∈ lw_tbl := List.mem_append_right _ (by have h9 := List.mem_of_getElem? h; exact List.mem_append_right _ (List.mem_append_right _ (List.mem_append_right _ (List.mem_append_left _ h9))))
theorem tb5 {w : Cond} (i : Nat) (h : tables_1_5[i]? = some w) : w ∈ lw_tbl := List.mem_append_right _ (by have h9 := List.mem_of_getElem? h; exact List.mem_append_right _ (List.mem_append_right _ (List.mem_append_right _ (List.mem_append_right _ (List.mem_append_left _ h9)))))
theorem tb6 {w : Cond} (i : Nat) (h : tables_1_6[i]? = some w) : w ∈ lw_tbl := List.mem_append_right _ (by have h9 := List.mem_of_getElem? h; exact List.mem_append_right _ (List.mem_append_right _ (List.mem_append_right _ (List.mem_append_right _ (List.mem_append_right _ (List.mem_append_left _ h9))))))
theorem tb7 {w : Cond} (i : Nat) (h : tables_1_7[i]? = some w) : w ∈ lw_tbl := List.mem_append_right _ (by have h9 := List.mem_of_getElem? h; exact List.mem_append_right _ (List.mem_append_right _ (List.mem_append_right _ (List.mem_append_right _ (List.mem_append_right _ (List.mem_append_right _ (List.mem_append_left _ h9)))))))
theorem tb8 {w : Cond} (i : Nat) (h : tables_1_8[i]? = some w) : w ∈ lw_tbl := List.mem_append_right _ (by have h9 := List.mem_of_getElem? h; exact List.mem_append_right _ (List.mem_append_right _ (List.mem_append_right _ (List.mem_append_right _ (List.mem_append_right _ (List.mem_append_right _ (List.mem_append_right _ (h9))))))))
set_option maxRecDepth 100000 in
theorem nest_in : ∀ x ∈ nestL, x ∈ lw_tbl := by
  intro x hx
  simp only [nestL, List.mem_cons, List.mem_nil_iff, or_false] at hx
  rcases hx with rfl | rfl | rfl | rfl | rfl | rfl | rfl | rfl
  · exact tb1 31 rfl
  · exact tb1 48 rfl
  · exact tb1 151 rfl
  · exact tb1 212 rfl
  · exact tb1 225 rfl
  · exact tb2 5 rfl
  · exact tb2 29 rfl
  · exact tb1 198 rfl
set_option maxRecDepth 100000 in
theorem tw_strW : Cond.stringRef RX8 29 txW ∈ lw_tbl := tb1 58 rfl
set_option maxRecDepth 100000 in
theorem tw_strS : Cond.stringRef RX8 76 txS ∈ lw_tbl := tb3 15 rfl
set_option maxRecDepth 100000 in
theorem tw_ao : Cond.arrayOver (.object RX5) ∈ lw_tbl := tb1 197 rfl
set_option maxRecDepth 100000 in
theorem tw_aoi : Cond.arrayOver (.array .int) ∈ lw_tbl := tb1 230 rfl
set_option maxRecDepth 100000 in
theorem tw_cs : Cond.laysStatic RJ0 "COMPACT_STRINGS" "Z" ∈ lw_tbl := tb1 68 rfl
set_option maxRecDepth 100000 in
theorem tw_fm : Cond.laysStatic RJ3 "SIOOBE_FORMATTER" "Ljava/util/function/BiFunction;" ∈ lw_tbl := tb1 84 rfl
set_option maxRecDepth 100000 in
theorem tw_i0 : Cond.initialized RJ0 ∈ lw_tbl := tb1 5 rfl
set_option maxRecDepth 100000 in
theorem tw_i3 : Cond.initialized RJ3 ∈ lw_tbl := tb1 7 rfl
theorem clsOK_all : ∀ ci, ci < 12 → ClsOK ci
  | 0, _ => kc0 | 1, _ => kc1 | 2, _ => kc2 | 3, _ => kc3 | 4, _ => kc4 | 5, _ => kc5 | 6, _ => kc6 | 7, _ => kc7 | 8, _ => kc8 | 9, _ => kc9 | 10, _ => kc10 | 11, _ => kc11
  | _ + 12, h => absurd h (by omega)
def μz : Mem := (fun _ _ => 0, fun _ _ => 0)
def INI (Inv : Mem → Prop) : Prop := ∃ μ0 μ1 : Mem, fX10_init_0 (zM μz 0) = some μ0 ∧ fX11_init (zM μ0 243) = some μ1 ∧ Inv μ1
set_option maxRecDepth 100000 in
theorem law_entry {Inv : Mem → Prop} (h : STEPS Inv) (hi : INI Inv) {Ls : Nat} {xs : Nat → Int32} (hLs : Ls ≤ 3072) : RX (PX Ls xs) mL 1000 0 NF 0 [(0, .ref 1000)] [] (μz, (fun _ _ => none), 0) QL := by
  obtain ⟨μ0, μ1, h0, h1, hI⟩ := hi
  refine rx_new 0 10 kc10 hpX10 dL_law_0 ly_0 (fun q hq => by cases hq; exact lL_7) (by decide) ?_
  refine rx_dup 3 dL_law_3 rfl ?_
  refine rx_callI 4 [] (n2 := 243) dL_law_4 caX10_init rfl rfl lL_9 inX10_init rfl naX10_init (Nat.le_of_ble_eq_true rfl) (Nat.le_of_ble_eq_true rfl) (by decide) (by decide) (by decide) (wX10_init_0 (zR (fun _ _ => none) 0) (zM μz 0) h0) ?_
  intro r9 σ9 h9 _
  obtain ⟨rfl, rfl⟩ := h9
  refine rx_astore_n 7 [(0, .ref 1000), (1, .ref 0)] dL_law_7 (by decide) rfl ?_
  refine rx_new 8 11 kc11 hpX11 dL_law_8 ly_243 (fun q hq => by cases hq; exact lL_10) (show 243 < NF by decide) ?_
  refine rx_dup 11 dL_law_11 rfl ?_
  refine rx_callI 12 [] (n2 := NF) dL_law_12 caX11_init rfl rfl lL_12 inX11_init rfl naX11_init (Nat.le_of_ble_eq_true rfl) (Nat.le_of_ble_eq_true rfl) (by decide) (show 244 ≤ NF by decide) (by decide) (wX11_init (zM μ0 243) h1) ?_
  intro r9 σ9 h9 _
  obtain ⟨rfl, rfl⟩ := h9
  refine rx_astore_n 15 [(0, .ref 1000), (1, .ref 0), (2, .ref 243)] dL_law_15 (by decide) rfl ?_
  refine rx_iconst 16 (v := 0) dL_law_16 (by decide) ?_
  refine rx_istore_n 17 (LL 0) dL_law_17 (by decide) rfl ?_
  exact law_loop h hLs (Ls + 1) 0 μ1 (Nat.zero_le _) (by omega) hI
def R_law : String := "LentSundaysLaw"
def lw_P (b : Addr) (xs : List Int32) (args : Array Value) (s : State) : Prop := args = #[.ref b] ∧ s.IntsAt b xs ∧ xs.length ≤ 3072 ∧ (Jvm.Cond.and given_1 narrow_1).before args s = true
def lw_Q (_ : Array Value) (s : State) (o : Outcome) (t : State) : Prop := o = .returned (some (.int 1)) ∧ Framed s o t [] 600000 7302250
def lw_Z (below : List Frame) (a : Array Value) (s : State) : State → Prop := fun t => ∃ o, t.status = .running ∧ Ended t below o ∧ lw_Q a s o t
def lw_At (p : Program) (s : State) (m : MethodId) (meth : Method) (c : Code) (b L : Nat) (xs : Nat → Int32) : Prop :=
  p.tables.exec = Jvm.exec ∧ c.code = code ∧ meth.sig.returnType = ret ∧ c.maxLocals = 4 ∧ s.vm.findClass R_law = some m.cls ∧ (∀ w ∈ lw_tbl, w.before #[Value.ref b] s = true) ∧ va_X b L xs s s.heap ∧ b < s.heap.size ∧ meth.locks = false ∧ meth.name = "law" ∧ (Jvm.Cond.and given_1 narrow_1).before #[Value.ref b] s = true
theorem fl_W : (List.range 116).map (fun j => Cond.eq (.elem (.field (.string RX8 29) "java/lang/String" "value" "[B") (.int (Int32.ofNat j))) (.int (byW.getD j 0))) = ((flatC (Jvm.Cond.and given_1 narrow_1)).drop 13).take 116 := by decide +kernel
theorem fl_S : (List.range 9).map (fun j => Cond.eq (.elem (.field (.string RX8 76) "java/lang/String" "value" "[B") (.int (Int32.ofNat j))) (.int (byS.getD j 0))) = ((flatC (Jvm.Cond.and given_1 narrow_1)).drop 133).take 9 := by decide +kernel
def tmS (i : Nat) : Term := if i = 0 then .string RX8 29 else .string RX8 76
theorem lt2 {i : Nat} (h : i < 2) : i = 0 ∨ i = 1 := by omega
theorem strs_of {args : Array Value} {s : State} (hs : ∀ c ∈ flatC (Jvm.Cond.and given_1 narrow_1), c.before args s = true) : ∃ adK adV : Nat → Nat, vk_S 2 [116, 9] [byW, byS] adK adV (fun q => s.heap.size ≤ q) s s.heap ∧ ∀ i : Nat, i < 2 → (tmS i).eval args s none [] s = some (.ref (adK i)) := by
  refine vk_Sof (tm := tmS) (fun i hi => ?_) (fun i hi => ?_) (fun i hi => ?_) (fun i hi => ?_) (fun i hi => ?_) (fun i hi j hj => ?_) (fun i j hi hj hij => ?_) (fun a ha => Nat.not_le.mpr ha)
  · rcases lt2 hi with rfl | rfl <;> decide
  · rcases lt2 hi with rfl | rfl
    · exact hs _ (List.mem_of_getElem? (i := 9) (by decide +kernel))
    · exact hs _ (List.mem_of_getElem? (i := 129) (by decide +kernel))
  · rcases lt2 hi with rfl | rfl
    · exact hs _ (List.mem_of_getElem? (i := 10) (by decide +kernel))
    · exact hs _ (List.mem_of_getElem? (i := 130) (by decide +kernel))
  · rcases lt2 hi with rfl | rfl
    · exact hs _ (List.mem_of_getElem? (i := 11) (by decide +kernel))
    · exact hs _ (List.mem_of_getElem? (i := 131) (by decide +kernel))
  · rcases lt2 hi with rfl | rfl
    · exact hs _ (List.mem_of_getElem? (i := 12) (by decide +kernel))
    · exact hs _ (List.mem_of_getElem? (i := 132) (by decide +kernel))
  · rcases lt2 hi with rfl | rfl
    · exact hs _ (va_run fl_W j hj)
    · exact hs _ (va_run fl_S j hj)
  · rcases lt2 hi with rfl | rfl <;> rcases lt2 hj with rfl | rfl
    · exact absurd rfl hij
    · exact Or.inl (hs _ (List.mem_of_getElem? (i := 142) (by decide +kernel)))
    · exact Or.inr (hs _ (List.mem_of_getElem? (i := 142) (by decide +kernel)))
    · exact absurd rfl hij
theorem szs_NF : szs NF ≤ 7302250 := by decide +kernel
theorem start_of {Inv : Mem → Prop} (hSt : STEPS Inv) (hIn : INI Inv) {p : Program} {e : Env} {s : State} {m : MethodId} {below : List Frame} {meth : Method} {c : Code} (l : Launch) {b L : Nat} {xs : Nat → Int32} (hL : L ≤ 3072) (C0 : lw_At p s m meth c b L xs) : W p l e room_1 s m #[Value.ref b] below meth c s.heap [] 0 0 (lw_Z below #[Value.ref b] s) (entryFrame m ([Value.ref b] : List Value).toArray 4) := by
  obtain ⟨hx, hb, hr, hml, hown, hts, hX, hbl, hlocks, hnm, hgv⟩ := C0
  have hs := flat_of_before _ hgv
  have hWL : ∀ x ∈ WL, x.before #[Value.ref b] s = true := fun x hx => hts x (List.mem_filter.mp hx).1
  have hA : ∀ a : Nat, a < s.heap.size → ¬ (fun q : Nat => s.heap.size ≤ q) a := fun a ha => Nat.not_le.mpr ha
  -- the classes
  have hcl : ∀ ci : Nat, ∃ dd : ClassId × (Nat → Nat), ∀ q : vw_C, clsL[ci]? = some q → u_Kn s q.1 q.2.1 q.2.2 dd.1 dd.2 := by
    intro ci
    by_cases h12 : ci < 12
    · obtain ⟨q, hc, hin, -, -, hins, -⟩ := clsOK_all ci h12
      obtain ⟨cC, iS, hk⟩ := u_known hWL hin (hWL _ hins)
      exact ⟨(cC, iS), fun q' hq' => by cases hc.symm.trans hq'; exact hk⟩
    · exact ⟨(0, fun _ => 0), fun q hq => by
        have : clsL.length ≤ ci := by show 12 ≤ ci; omega
        rw [List.getElem?_eq_none this] at hq
        cases hq⟩
  obtain ⟨dd, hdd⟩ := Classical.axiomOfChoice hcl
  -- the array classes
  obtain ⟨c0, k0, p0, f0, g0, t0⟩ := Cond.arrayClass_spec (hWL _ wlA_int)
  obtain ⟨c1, k1, p1, f1, g1, t1⟩ := Cond.arrayClass_spec (hWL _ wlA_long)
  obtain ⟨c2, k2, p2, f2, g2, t2⟩ := Cond.arrayClass_spec (hWL _ wlA_byte)
  obtain ⟨c3, k3, p3, f3, g3, t3⟩ := Cond.arrayClass_spec (hWL _ wlA_boolean)
  have hao := hts _ tw_ao
  have haoi := hts _ tw_aoi
  obtain ⟨p4, c4, k4, a4, -, g4, t4, f4⟩ := Cond.arrayOver_spec hao
  obtain ⟨p5, c5, k5, a5, -, g5, t5, f5⟩ := arrayOverA_spec haoi
  -- the texts
  obtain ⟨adK, adV, hS, hev⟩ := strs_of hs
  let cA : Nat → ClassId := fun t => if t = 0 then c0 else if t = 1 then c1 else if t = 2 then c2 else if t = 3 then c3 else if t = 4 then c4 else c5
  let adr : Nat → Nat := fun k => if k < NF then s.heap.size + k else if k = 1000 then b else if k = 1001 then adK 0 else if k = 1002 then adV 0 else if k = 1003 then adK 1 else adV 1
  let w : Wd := (s.heap.size, adr, (fun ci => (dd ci).1, fun ci => (dd ci).2), cA, s.heap)
  have hadr : ∀ k, k < NF → adr k = s.heap.size + k := fun k hk => if_pos hk
  have hw : WOK w := ⟨fun i j hi hj e => by
    have e : adr i = adr j := e
    rw [hadr i hi, hadr j hj] at e
    omega, fun k hk => by
    show s.heap.size ≤ adr k
    rw [hadr k hk]
    omega⟩
  have hK : va_K w.2.2.1 clsL (tysW w) s := by
    refine ⟨fun ci q hq => hdd ci q hq, fun k q hk => ?_⟩
    have hk6 : k < 6 := (List.getElem?_eq_some_iff.mp hk).1
    rcases (show k = 0 ∨ k = 1 ∨ k = 2 ∨ k = 3 ∨ k = 4 ∨ k = 5 by omega) with rfl | rfl | rfl | rfl | rfl | rfl
    · cases hk; exact ⟨fun n z => ⟨fun k h => (by cases h), k0, g0, p0, t0⟩, f0⟩
    · cases hk; exact ⟨fun n z => ⟨fun k h => (by cases h), k1, g1, p1, t1⟩, f1⟩
    · cases hk; exact ⟨fun n z => ⟨fun k h => (by cases h), k2, g2, p2, t2⟩, f2⟩
    · cases hk; exact ⟨fun n z => ⟨fun k h => (by cases h), k3, g3, p3, t3⟩, f3⟩
    · cases hk; exact ⟨fun n z => ⟨fun k h => (by cases h), k4, g4, p4, t4⟩, k4, p4, g4, t4, a4, f4⟩
    · cases hk; exact ⟨fun n z => ⟨fun k h => (by cases h), k5, g5, p5, t5⟩, f5⟩
  have eK : (fun i => w.2.1 (1001 + 2 * i)) = (fun i => if i = 0 then adK 0 else if i = 1 then adK 1 else adV 1) := by
    funext i
    show adr (1001 + 2 * i) = _
    show (if 1001 + 2 * i < NF then _ else if 1001 + 2 * i = 1000 then _ else if 1001 + 2 * i = 1001 then _ else if 1001 + 2 * i = 1002 then _ else if 1001 + 2 * i = 1003 then _ else _) = _
    rw [if_neg (by show ¬ 1001 + 2 * i < 289; omega), if_neg (by omega)]
    by_cases h0 : i = 0
    · subst h0; rfl
    · rw [if_neg (by omega), if_neg (by omega), if_neg h0]
      by_cases h1 : i = 1
      · subst h1; rfl
      · rw [if_neg (by omega), if_neg h1]
  have eV : ∀ i, i < 2 → w.2.1 (1002 + 2 * i) = adV i := fun i hi => by rcases lt2 hi with rfl | rfl <;> rfl
  have eK2 : ∀ i, i < 2 → w.2.1 (1001 + 2 * i) = adK i := fun i hi => by rcases lt2 hi with rfl | rfl <;> rfl
  have hS2 : vk_S 2 [116, 9] [byW, byS] (fun i => w.2.1 (1001 + 2 * i)) (fun i => w.2.1 (1002 + 2 * i)) (fun q => w.1 ≤ q) s w.2.2.2.2 := by
    refine ⟨fun i hi => ?_, fun i j hi hj e => ?_⟩
    · dsimp only
      rw [eV i hi, eK2 i hi]
      exact hS.1 i hi
    · dsimp only at e
      rw [eK2 i hi, eK2 j hj] at e
      exact hS.2 i j hi hj e
  have hEX : EX w s := ⟨vk_R.of (hts _ tw_strW) (hev 0 (by decide)), vk_R.of (hts _ tw_strS) (hev 1 (by decide)), hS2, va_Zof (hts _ tw_cs) (hts _ tw_i0) (va_eqt (hs _ (List.mem_of_getElem? (i := 4) (by decide +kernel)))) hA, va_Zqof (hts _ tw_fm) (hts _ tw_i3) (hs _ (List.mem_of_getElem? (i := 5) (by decide +kernel))) hA, L, xs, hX, hbl⟩
  have hKOK : KOK w s := ⟨hK, fun x hx => va_Nw.of (by
    simp only [nestL, List.mem_cons, List.mem_nil_iff, or_false] at hx
    rcases hx with rfl | rfl | rfl | rfl | rfl | rfl | rfl | rfl <;> rfl) (hts x (nest_in x hx)), ⟨va_AO.of hao, haoi⟩, hEX⟩
  have hf : FrOK mL w p s m #[Value.ref b] meth c := ⟨hx, hb, hml, hown, hWL, hr, hlocks, hnm, hKOK⟩
  have hl := lv_entry ([.ref b]) (n := 4) (Nat.le_of_ble_eq_true rfl)
  rw [lg_entry_eq]
  generalize (lg_sl ([.ref b]) ++ List.replicate (4 - (lg_sl ([.ref b])).length) Slot.unset).toArray = ls at hl ⊢
  have hE := law_entry hSt hIn hL (xs := xs) w p l e room_1 s m #[Value.ref b] below meth c s.heap [] ls hw hf ⟨by decide, by decide, by decide, by show szs NF - szs 0 ≤ 7302250; have := szs_NF; omega⟩ ⟨Nat.zero_le _, fun k hk => absurd hk (Nat.not_lt_zero _), fun _ _ => rfl, Nat.le_refl _, fun j hj => by
    show adr (0 + j) = s.heap.size + j
    rw [Nat.zero_add]
    exact hadr j (by have : 0 + j < NF := hj; omega)⟩ ⟨Nat.le_refl _, Nat.zero_le _, Nat.le_refl _⟩ (fun q hq => by cases hq) hl ⟨hX, hbl⟩
  intro T hT X
  obtain ⟨t, a1, o, b1, b2, ⟨r, σ2, q1, q2, q3, q4⟩, Lc, hFE, hfree⟩ := hE T hT X
  subst q1
  refine ⟨t, a1, o, b1, b2, q3, ?_⟩
  obtain ⟨z1, z2, z3⟩ := hFE
  exact ⟨z1, z2, z3.weaken (fun y hy hlt => absurd hlt (Nat.not_lt.mpr (hfree y hy))) (by decide) (by show szs NF - szs 0 ≤ 7302250; have := szs_NF; omega)⟩

