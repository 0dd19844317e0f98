/-! ===== rows: new cells, calls ===== -/
section NW
variable {M : MR} {d n0 n1 : Nat} (pc : Nat) {L : List (Nat × Value)} {st : List Value} {σ : PS} {Q : Option Value → PS → Prop}
theorem fv_zero {w : Wd} {μ : Mem} {r : Nat → Nat → Option Nat} {n m ci j : Nat} (hp : fty ci j = .int ∨ fty ci j = .boolean ∨ isRt (fty ci j) = true) : defaultValue (fty ci j) = fv w (zM μ n, zR r n, m) n ci j := by
  unfold fv
  rcases hp with h | h | h
  · rw [h]; simp [isRt, zM, defaultValue]
  · rw [h]; simp [isRt, zM, defaultValue]
  · rw [if_pos h]
    simp only [zR, if_pos, Option.map_none]
    generalize fty ci j = z at h
    cases z <;> first | rfl | (cases h; done)
theorem rw_new {idx : Nat} (ci : Nat) (hcl : ClsOK ci) (hp : ∀ j, j < nfl ci → fty ci j = .int ∨ fty ci j = .boolean ∨ isRt (fty ci j) = true) (hd : decode M.2.1 pc = .ok (.new idx, 3)) (hl : lay σ.2.2 = .inl ci) (hk : ∀ q : vw_C, clsL[ci]? = some q → Cond.classLink M.1.cls idx q.1 ∈ WL) (hlt : σ.2.2 < n1)
    (k : RW M d n0 n1 (pc + 3) L (.ref σ.2.2 :: st) (zM σ.1 σ.2.2, zR σ.2.1 σ.2.2, σ.2.2 + 1) Q) : RW M d n0 n1 pc L st σ Q := by
  intro w p l e R s m args below meth c H locs ls hw hf hR hH hn hlo hL
  obtain ⟨q, hc, hin, hty, hnm, hins, hini⟩ := hcl
  have hts := hf.2.2.2.2.1
  have hKn := hf.2.2.2.2.2.2.2.2.1.1 ci _ hc
  have hsz : szs (σ.2.2 + 1) = szs σ.2.2 + q.2.2 := by
    show szs σ.2.2 + szK (lay σ.2.2) = _
    rw [hl]
    show _ + nfl ci = _
    rw [nfl_of hc]
  have hm1 := szs_mono (show σ.2.2 + 1 ≤ n1 by omega)
  have hm0 := szs_mono hn.1
  refine W.newcK hf.1 hf.2.1 hf.2.2.2.1 (hts _ (hk q hc)) (hts _ hins) (hts _ hini) rfl hd (by have := hR.2.2.1; omega) (by have := hR.2.2.2; omega) hKn.2.1 rfl fun H1 kC hkC e1 z1 o1 => ?_
  obtain ⟨hrel, e0⟩ := hH.push (σ' := (zM σ.1 σ.2.2, zR σ.2.1 σ.2.2, σ.2.2 + 1)) (by omega) z1 o1 rfl (fun e0 => cellR_obj hl (by
      rw [nfl_of hc, e0]
      refine (u_born (fty ci) hts hin hKn hkC e1 hty).to (fun j hj => fv_zero (hp j (by rw [nfl_of hc]; exact hj))))) (fun x j hx => ⟨by simp [zM, hx], by simp [zM, hx], by simp [zR, hx]⟩)
  have := k w p l e R s m args below meth c H1 locs ls hw hf hR hrel ⟨by show n0 ≤ σ.2.2 + 1; omega, by show σ.2.2 + 1 ≤ n1; omega, hn.2.2⟩ hlo hL
  have c1 : (σ.2.2 + 1) - n0 = σ.2.2 - n0 + 1 := by omega
  have c2 : szs (σ.2.2 + 1) - szs n0 = szs σ.2.2 - szs n0 + q.2.2 := by omega
  have e9 : vmp w (.ref σ.2.2) = .ref H.size := by show Value.ref _ = _; rw [e0]
  dsimp only at this
  rw [c1, c2, List.map_cons, e9] at this
  exact this
theorem rw_newaT {ty n : Nat} {v : Int32} (atype : ArrayType) (hat : newarray.typeOf atype = aty ty) (ht3 : ty ≤ 3) (hd : decode M.2.1 pc = .ok (.newarray atype, 2)) (hl : lay σ.2.2 = .inr (ty, n)) (hv : ¬ v < 0) (hvn : v.toNatClampNeg = n) (hbig : n ≤ 60000) (hk : Cond.arrayClass (aty ty) ∈ WL) (hlt : σ.2.2 < n1)
    (k : RW M d n0 n1 (pc + 2) L (.ref σ.2.2 :: st) (zM σ.1 σ.2.2, zR σ.2.1 σ.2.2, σ.2.2 + 1) Q) : RW M d n0 n1 pc L (.int v :: st) σ Q := by
  intro w p l e R s m args below meth c H locs ls hw hf hR hH hn hlo hL
  have hts := hf.2.2.2.2.1
  have hsz : szs (σ.2.2 + 1) = szs σ.2.2 + n := by
    show szs σ.2.2 + szK (lay σ.2.2) = _
    rw [hl]
    rfl
  have hm1 := szs_mono (show σ.2.2 + 1 ≤ n1 by omega)
  have hm0 := szs_mono hn.1
  have hby : n * componentBytes (newarray.typeOf atype) ≤ 536870912 := by
    rw [hat]
    rcases (show ty = 0 ∨ ty = 1 ∨ ty = 2 ∨ ty = 3 by omega) with rfl | rfl | rfl | rfl <;> (simp only [aty, componentBytes]; omega)
  refine va_newaK hf.1 hf.2.1 (by rw [hat]; exact hts _ hk) rfl hd rfl hv hvn hby (by have := hR.2.2.1; omega) (by have := hR.2.2.2; omega) rfl fun H1 cA e1 z1 o1 hAr hfc => ?_
  rw [hat] at e1 hfc
  have hcA : w.2.2.2.1 ty = cA := by
    have h0 := hf.2.2.2.2.2.2.2.2.1.2
    rcases (show ty = 0 ∨ ty = 1 ∨ ty = 2 ∨ ty = 3 by omega) with rfl | rfl | rfl | rfl
    · exact Option.some.inj ((show s.vm.findClass ("[" ++ FieldType.int.toString) = some (w.2.2.2.1 0) from (h0 0 _ rfl).2).symm.trans hfc)
    · exact Option.some.inj ((show s.vm.findClass ("[" ++ FieldType.long.toString) = some (w.2.2.2.1 1) from (h0 1 _ rfl).2).symm.trans hfc)
    · exact Option.some.inj ((show s.vm.findClass ("[" ++ FieldType.byte.toString) = some (w.2.2.2.1 2) from (h0 2 _ rfl).2).symm.trans hfc)
    · exact Option.some.inj ((show s.vm.findClass ("[" ++ FieldType.boolean.toString) = some (w.2.2.2.1 3) from (h0 3 _ rfl).2).symm.trans hfc)
  obtain ⟨hrel, e0⟩ := hH.push (σ' := (zM σ.1 σ.2.2, zR σ.2.1 σ.2.2, σ.2.2 + 1)) (by omega) z1 o1 rfl (fun e0 => cellR_arr hl (by
      rw [e0, e1, hcA]
      congr 2
      funext j
      rcases (show ty = 0 ∨ ty = 1 ∨ ty = 2 ∨ ty = 3 by omega) with rfl | rfl | rfl | rfl <;> simp [av, zM, aty, defaultValue])) (fun x j hx => ⟨by simp [zM, hx], by simp [zM, hx], by simp [zR, hx]⟩)
  have := k w p l e R s m args below meth c H1 locs ls hw hf hR hrel ⟨by show n0 ≤ σ.2.2 + 1; omega, by show σ.2.2 + 1 ≤ n1; omega, hn.2.2⟩ hlo hL
  have c1 : (σ.2.2 + 1) - n0 = σ.2.2 - n0 + 1 := by omega
  have c2 : szs (σ.2.2 + 1) - szs n0 = szs σ.2.2 - szs n0 + n := by omega
  have e9 : vmp w (.ref σ.2.2) = .ref H.size := by show Value.ref _ = _; rw [e0]
  dsimp only at this
  rw [c1, c2, List.map_cons, e9] at this
  exact this
theorem rw_anew {n idx : Nat} {v : Int32} (hd : decode M.2.1 pc = .ok (.anewarray idx, 3)) (hl : lay σ.2.2 = .inr (4, n)) (hv : ¬ v < 0) (hvn : v.toNatClampNeg = n) (hbig : n ≤ 60000) (hk : Cond.classLink M.1.cls idx RX5 ∈ WL) (hlt : σ.2.2 < n1)
    (k : RW M d n0 n1 (pc + 3) L (.ref σ.2.2 :: st) (zM σ.1 σ.2.2, zR σ.2.1 σ.2.2, σ.2.2 + 1) Q) : RW M d n0 n1 pc L (.int v :: st) σ Q := by
  intro w p l e R s m args below meth c H locs ls hw hf hR hH hn hlo hL
  have hts := hf.2.2.2.2.1
  have hsz : szs (σ.2.2 + 1) = szs σ.2.2 + n := by
    show szs σ.2.2 + szK (lay σ.2.2) = _
    rw [hl]
    rfl
  have hm1 := szs_mono (show σ.2.2 + 1 ≤ n1 by omega)
  have hm0 := szs_mono hn.1
  subst hvn
  refine W.anew hf.1 hf.2.1 hf.2.2.2.1 (hts _ hk) (va_AO.use hf.2.2.2.2.2.2.2.2.2.2.1.1) rfl hd rfl hv (by omega) (by have := hR.2.2.1; omega) (by have := hR.2.2.2; omega) fun cA kA comp f1 f2 f3 f4 => ?_
  generalize hH1 : H.push ({ cls := cA, slots := Array.replicate v.toNatClampNeg .null, vm := .none } : Cell) = H1
  have z1 : H1.size = H.size + 1 := by rw [← hH1, Array.size_push]
  have e1 : H1[H.size]? = some (arrV cA v.toNatClampNeg (fun _ => .null)) := by rw [← hH1, Array.getElem?_push_size, ← arrV_new]
  have o1 : ∀ q : Nat, q < H.size → H1[q]? = H[q]? := fun q hq => by rw [← hH1, Array.getElem?_push, if_neg (Nat.ne_of_lt hq)]
  have hcA : w.2.2.2.1 4 = cA := by
    obtain ⟨_, _, -, -, -, h4⟩ := (hf.2.2.2.2.2.2.2.2.1.2 4 _ rfl).2
    exact Option.some.inj (h4.symm.trans f1)
  obtain ⟨hrel, e0⟩ := hH.push (σ' := (zM σ.1 σ.2.2, zR σ.2.1 σ.2.2, σ.2.2 + 1)) (by omega) z1 o1 rfl (fun e0 => cellR_arr hl (by
      rw [e0, e1, hcA]
      congr 2
      funext j
      simp [av, zR, va_rf])) (fun x j hx => ⟨by simp [zM, hx], by simp [zM, hx], by simp [zR, hx]⟩)
  have := k w p l e R s m args below meth c H1 locs ls hw hf hR hrel ⟨by show n0 ≤ σ.2.2 + 1; omega, by show σ.2.2 + 1 ≤ n1; omega, hn.2.2⟩ hlo hL
  have c1 : (σ.2.2 + 1) - n0 = σ.2.2 - n0 + 1 := by omega
  have c2 : szs (σ.2.2 + 1) - szs n0 = szs σ.2.2 - szs n0 + v.toNatClampNeg := by omega
  have e9 : vmp w (.ref σ.2.2) = .ref H.size := by show Value.ref _ = _; rw [e0]
  dsimp only at this
  rw [c1, c2, List.map_cons, e9] at this
  exact this
theorem rw_aast {a n b : Nat} {i : Int32} (hd : decode M.2.1 pc = .ok (.aastore, 1)) (hl : lay a = .inr (4, n)) (ha : a < σ.2.2) (hlb : lay b = .inl 5) (hb : b < σ.2.2) (hi : inb i n) (k : RW M d n0 n1 (pc + 1) L st (σ.1, wR σ.2.1 a i.toNatClampNeg (some b), σ.2.2) Q) : RW M d n0 n1 pc L (.ref b :: .int i :: .ref a :: st) σ Q := by
  intro w p l e R s m args below meth c H locs ls hw hf hR hH hn hlo hL
  obtain ⟨cellV, g1, g2, g3, -⟩ := hH.obj hb hlb
  have hK := hf.2.2.2.2.2.2.2.2.1
  have hcls := (hK.1 5 (RX5, TX5, 7) rfl).2
  obtain ⟨kA, comp, k1, k2, k3, -⟩ := (hK.2 4 _ rfl).2
  have hcomp : comp = w.2.2.1.1 5 := Option.some.inj (k3.symm.trans hcls.1)
  subst hcomp
  obtain ⟨kC, hkC, -⟩ := hcls.2
  refine W.aast hf.1 hf.2.1 (hH.arr ha hl) (fun q h => by cases h) (fun h => by cases h) k1 k2 rfl hkC ⟨fun q => hi (Or.inl q), by rw [arrV_size]; exact inb_lt hi⟩ g1 (fun q h => by rw [g3] at h; cases h) (by rw [g2]; exact hkC) (by rw [g2]; exact va_assign hcls) rfl rfl hd fun H1 e1 z oq => ?_
  refine k w p l e R s m args below meth c H1 _ ls hw hf hR (rel_arr hw hH ha hl e1 z oq rfl (fun j => ?_) (fun q j hq => ⟨rfl, rfl, ?_⟩)) hn (hlo_app hlo (hw.2 a (by have := hH.1; omega))) hL
  · rw [av_r (by omega), av_r (by omega)]
    by_cases hj : j = i.toNatClampNeg <;> simp [wR, hj, va_rf]
  · simp [wR, hq]
theorem rw_objInit {idx a : Nat} (hd : decode M.2.1 pc = .ok (.invokespecial idx, 3)) (h1 : Cond.methodLink M.1.cls idx objectInit ∈ WL) (h2 : Cond.instanceMethod objectInit ∈ WL) (h3 : Cond.code objectInit ⟨#[0xb1]⟩ 1 none ∈ WL) (hd1 : 1 ≤ d) (hs : (st.map fun v => v.category).sum ≤ 8) (k : RW M d n0 n1 (pc + 3) L st σ Q) : RW M d n0 n1 pc L (.ref a :: st) σ Q := by
  intro w p l e R s m args below meth c H locs ls hw hf hR hH hn hlo hL
  have hts := hf.2.2.2.2.1
  exact W.objInit hf.1 hf.2.1 hf.2.2.2.1 (hts _ h1) (hts _ h2) (hts _ h3) rfl (by rw [hf.2.2.1]; exact hL.1) rfl hd (by have := hR.1; omega) (by show 2 * 0 + ((st.map (vmp w)).map fun v => v.category).sum + 12 ≤ R.locals; rw [vmp_sum]; have := hR.2.1; omega) (k w p l e R s m args below meth c H locs ls hw hf hR hH hn hlo hL)
end NW
/-- a method from its entry -/
def Ct (M : MR) (d n0 n1 : Nat) (av : List Value) (σ : PS) (Q : Option Value → PS → Prop) : Prop := RW M d n0 n1 0 (lv_args 0 av) [] σ Q
def rmD (d n0 n1 : Nat) : Room := { frames := d, cells := n1 - n0, slots := szs n1 - szs n0, locals := 80 * d }
def PcO (w : Wd) (av : List Value) (σ : PS) : Array Value → State → Prop := fun v U => v = (av.map (vmp w)).toArray ∧ Rel w σ U.heap ∧ KOK w U
theorem PcO_blind (w : Wd) (av : List Value) (σ : PS) : FrameBlind (PcO w av σ) := fun a U g mk h => ⟨h.1, h.2.1, KOK.same (s := U) (show (U.calling g mk a).vm = U.vm from rfl) h.2.2⟩
theorem args_map (w : Wd) : ∀ (i : Nat) (av : List Value), lv_args i (av.map (vmp w)) = (lv_args i av).map (fun q => (q.1, vmp w q.2))
  | _, [] => rfl
  | i, v :: vs => by
    show (i, vmp w v) :: lv_args (if (vmp w v).category = 2 then i + 2 else i + 1) (vs.map (vmp w)) = _
    rw [vmp_cat, args_map w]
    rfl
theorem sl_len (w : Wd) (av : List Value) : (lg_sl (av.map (vmp w))).length = (lg_sl av).length := by
  induction av with
  | nil => rfl
  | cons v vs ih =>
    simp only [lg_sl, List.map_cons, List.flatMap_cons, List.length_append, vmp_cat] at ih ⊢
    rw [ih]
    congr 1
    split <;> rfl
theorem Ct.met {M : MR} {d n0 n1 : Nat} {av : List Value} {σ : PS} {Q : Option Value → PS → Prop} {w : Wd} (h : Ct M d n0 n1 av σ Q) (hy : plainName M.1.cls = true) (hl : (lg_sl av).length ≤ M.2.2.1) (hw : WOK w) (h0 : σ.2.2 = n0) (h1 : n0 ≤ n1) (h2 : n1 ≤ NF) (l : Launch) :
    Met l M.1 (Cond.code M.1 M.2.1 M.2.2.1 M.2.2.2 :: WL) (rmD d n0 n1) (PcO w av σ) (QcO w n1 Q) (n1 - n0) (szs n1 - szs n0) (fun a => w.1 ≤ a) := by
  refine Met.ofW (cc := M.2.1) (maxL := M.2.2.1) (ret := M.2.2.2) hy rfl ?_
  intro p e s m args below meth c s₁ B hml hv
  obtain ⟨rfl, hH, hK⟩ := hv
  have hts := atoms_spec (ws := Cond.code M.1 M.2.1 M.2.2.1 M.2.2.2 :: WL) B.pre
  have hl2 := lv_entry (av.map (vmp w)) (n := M.2.2.1) (by rw [sl_len]; exact hl)
  rw [lg_entry_eq]
  generalize (lg_sl (av.map (vmp w)) ++ List.replicate (M.2.2.1 - (lg_sl (av.map (vmp w))).length) Slot.unset).toArray = ls at hl2 ⊢
  rw [args_map] at hl2
  have := h w p l e (rmD d n0 n1) s m (av.map (vmp w)).toArray below meth c s.heap [] ls hw ⟨B.exec, B.bytes, hml, findClass_of_methodNamed B.named, fun x hx => hts x (List.mem_cons_of_mem _ hx), B.returns, B.notSynchronized, (name_of_methodNamed B.named B.method).1, hK⟩ ⟨Nat.le_refl _, Nat.le_refl _, Nat.le_refl _, Nat.le_refl _⟩ hH ⟨by omega, by omega, h2⟩ (fun q hq => by cases hq) hl2
  rw [h0, Nat.sub_self, Nat.sub_self] at this
  exact this
/-- what the tables say of a method that is called -/
def CaOK (M : MR) : Prop := Cond.code M.1 M.2.1 M.2.2.1 M.2.2.2 ∈ WL ∧ Cond.initialized M.1.cls ∈ WL ∧ plainName M.1.cls = true ∧ (M.1.cls ≠ "java/lang/invoke/MethodHandle" ∧ M.1.cls ≠ "java/lang/invoke/VarHandle") ∧ M.2.2.1 ≤ 60
theorem code_in {M : MR} (h : CaOK M) : ∀ x ∈ (Cond.code M.1 M.2.1 M.2.2.1 M.2.2.2 :: WL), x ∈ WL := fun x hx => (List.mem_cons.mp hx).elim (fun e => by rw [e]; exact h.1) id
section CL
variable {M : MR} {d n0 n1 : Nat} (pc : Nat) {L : List (Nat × Value)} {st : List Value} {σ : PS} {Q : Option Value → PS → Prop}
theorem callB_wl {w : Wd} {p : Program} {s : State} {m : MethodId} {args : Array Value} {meth : Method} {c : Code} {R : Room} {N : MR} {idx d' n n' na : Nat} (hf : FrOK M w p s m args meth c) (hR : RmOK R d n0 n1) (hN : CaOK N) (hlk : Cond.methodLink M.1.cls idx N.1 ∈ WL) (hdd : d' < d) (hna : (parseMethodDescriptor N.1.desc).map (fun q => q.parameters.length) = some na) :
    CallB R s args M.1.cls idx N.1 N.2.1 N.2.2.1 N.2.2.2 (Cond.code N.1 N.2.1 N.2.2.1 N.2.2.2 :: WL) (rmD d' n n') (n' - n) (szs n' - szs n) na := by
  have hts := hf.2.2.2.2.1
  exact callB_of na hts (wl_goodIn (fun _ h => h) (code_in hN)) rfl rfl rfl (hts _ hN.2.1) (hts _ hlk) ⟨hN.2.2.2.1.1, hN.2.2.2.1.2, hna⟩ ⟨by have := hR.1; show d' + 1 ≤ _; omega, by have := hR.2.1; have := hN.2.2.2.2; show 8 + (N.2.2.1 + 11) + 80 * d' ≤ _; omega⟩
theorem after_call {w : Wd} {p : Program} {l : Launch} {e : Env} {R : Room} {s : State} {m : MethodId} {args : Array Value} {below : List Frame} {meth : Method} {c : Code} {H : Heap} {locs : List Loc} {ls : Array Slot} {rest : List Value} {st0 : List Value} {σ : PS} {Q2 : Option Value → PS → Prop} {n2 : Nat} {a : Array Value}
    (hw : WOK w) (hf : FrOK M w p s m args meth c) (hR : RmOK R d n0 n1) (hn : n0 ≤ σ.2.2 ∧ σ.2.2 ≤ n1 ∧ n1 ≤ NF) (h12 : σ.2.2 ≤ n2) (h21 : n2 ≤ n1) (hlo : ∀ q ∈ locs, w.1 ≤ q.base) (hL : LcOK w M.2.2.1 L ls)
    (run : va_Run p l e R s m args below meth c H locs (σ.2.2 - n0) (szs σ.2.2 - szs n0) (n2 - σ.2.2) (szs n2 - szs σ.2.2) (F0 m pc ls st0) (rest.map (vmp w)) (QcO w n2 Q2 a) (fun a => w.1 ≤ a))
    (k : ∀ r σ2, Q2 r σ2 → σ2.2.2 = n2 → RW M d n0 n1 (pc + 3) L (r.toList ++ rest) σ2 Q) : W p l e R s m args below meth c H locs (σ.2.2 - n0) (szs σ.2.2 - szs n0) (MQ below (QcO w n1 Q) args s (n1 - n0) (szs n1 - szs n0) (fun a => w.1 ≤ a)) (F0 m pc ls st0) := by
  intro T hT X
  obtain ⟨v, s0, t, T', L', h0, X', hL', e1, e2, ⟨r, σ2, hq, hz, hv, hrel⟩, st⟩ := run T hT X
  cases hv
  have c1 : σ.2.2 - n0 + (n2 - σ.2.2) = σ2.2.2 - n0 := by omega
  have m1 := szs_mono hn.1
  have m2 := szs_mono h12
  have c2 : szs σ.2.2 - szs n0 + (szs n2 - szs σ.2.2) = szs σ2.2.2 - szs n0 := by rw [hz]; omega
  rw [c1, c2] at X'
  obtain ⟨t2, a1, b1⟩ := k r σ2 hq hz w p l e R s m args below meth c T'.heap (locs ++ L') ls hw hf hR (by rw [e1]; exact hrel) ⟨by omega, by omega, hn.2.2⟩ (fun q h => by
    rcases List.mem_append.mp h with h | h
    · exact hlo q h
    · exact hL' q h) hL T' rfl X'
  refine ⟨t2, st t2 ?_, b1⟩
  rw [List.map_append] at a1
  cases r with
  | none => exact a1
  | some r => exact a1
theorem rw_callV {N : MR} {idx d' n2 a : Nat} (ci : Nat) (As : List Value) {rest : List Value} {Q2 : Option Value → PS → Prop} (hd : decode M.2.1 pc = .ok (.invokevirtual idx, 3)) (hN : CaOK N) (hlk : Cond.methodLink M.1.cls idx N.1 ∈ WL) (hins : Cond.instanceMethod N.1 ∈ WL) (hsel : Cond.selects N.1.cls N.1 N.1 ∈ WL) (hst : st = As.reverse ++ .ref a :: rest) (hl : lay a = .inl ci) (hci : ∃ q : vw_C, clsL[ci]? = some q ∧ q.1 = N.1.cls) (ha : a < σ.2.2) (hna : (parseMethodDescriptor N.1.desc).map (fun q => q.parameters.length) = some As.length) (hsl : (lg_sl (.ref a :: As)).length ≤ N.2.2.1) (hr8 : (rest.map fun v => v.category).sum ≤ 8) (hdd : d' < d) (h12 : σ.2.2 ≤ n2) (h21 : n2 ≤ n1)
    (hc : Ct N d' σ.2.2 n2 (.ref a :: As) σ Q2) (k : ∀ r σ2, Q2 r σ2 → σ2.2.2 = n2 → RW M d n0 n1 (pc + 3) L (r.toList ++ rest) σ2 Q) : RW M d n0 n1 pc L st σ Q := by
  subst hst
  intro w p l e R s m args below meth c H locs ls hw hf hR hH hn hlo hL
  have hts := hf.2.2.2.2.1
  have m1 := szs_mono h12
  have m2 := szs_mono h21
  have m3 := szs_mono hn.1
  obtain ⟨q, hq1, hq2⟩ := hci
  obtain ⟨cell, g1, g2, g3, -⟩ := hH.obj ha hl
  have hM := hc.met (w := w) hN.2.2.1 hsl hw rfl h12 (by omega) l
  have e0 : (As.reverse ++ Value.ref a :: rest).map (vmp w) = (As.map (vmp w)).reverse ++ .ref (w.2.1 a) :: rest.map (vmp w) := by rw [List.map_append, List.map_reverse]; rfl
  rw [e0]
  refine after_call pc hw hf hR hn h12 h21 hlo hL (va_runV (As := As.map (vmp w)) (rest := rest.map (vmp w)) (Ts := WL) ⟨hf.1, hf.2.1, hf.2.2.1, hf.2.2.2.1, hts⟩ hM ⟨callB_wl hf hR hN hlk hdd hna, hts _ hins, hts _ hsel⟩ ⟨PcO_blind w _ σ, ⟨cell, g1, by rw [g3]; rfl, ?_⟩, fun U hU hW => ⟨rfl, by rw [hU]; exact hH, hf.2.2.2.2.2.2.2.2.warm hW⟩⟩ rfl (by rw [List.length_map]) hL.1 rfl ?_ hd ⟨by have := hR.2.2.1; omega, by have := hR.2.2.2; omega⟩) k
  · rw [g2, ← hq2]
    exact (hf.2.2.2.2.2.2.2.2.1.1 ci q hq1).2.1
  · show 2 * 0 + ((rest.map (vmp w)).map fun v => v.category).sum ≤ 8
    rw [vmp_sum]
    omega
theorem rw_callS {N : MR} {idx d' n2 : Nat} (As : List Value) {rest : List Value} {Q2 : Option Value → PS → Prop} (hd : decode M.2.1 pc = .ok (.invokestatic idx, 3)) (hN : CaOK N) (hlk : Cond.methodLink M.1.cls idx N.1 ∈ WL) (hstat : Cond.static N.1 ∈ WL) (hst : st = As.reverse ++ rest) (hna : (parseMethodDescriptor N.1.desc).map (fun q => q.parameters.length) = some As.length) (hsl : (lg_sl As).length ≤ N.2.2.1) (hr8 : (rest.map fun v => v.category).sum ≤ 8) (hdd : d' < d) (h12 : σ.2.2 ≤ n2) (h21 : n2 ≤ n1)
    (hc : Ct N d' σ.2.2 n2 As σ Q2) (k : ∀ r σ2, Q2 r σ2 → σ2.2.2 = n2 → RW M d n0 n1 (pc + 3) L (r.toList ++ rest) σ2 Q) : RW M d n0 n1 pc L st σ Q := by
  subst hst
  intro w p l e R s m args below meth c H locs ls hw hf hR hH hn hlo hL
  have hts := hf.2.2.2.2.1
  have m1 := szs_mono h12
  have m2 := szs_mono h21
  have m3 := szs_mono hn.1
  have hM := hc.met (w := w) hN.2.2.1 hsl hw rfl h12 (by omega) l
  have e0 : (As.reverse ++ rest).map (vmp w) = (As.map (vmp w)).reverse ++ rest.map (vmp w) := by rw [List.map_append, List.map_reverse]
  rw [e0]
  refine after_call pc hw hf hR hn h12 h21 hlo hL (va_runS (As := As.map (vmp w)) (rest := rest.map (vmp w)) (Ts := WL) ⟨hf.1, hf.2.1, hf.2.2.1, hf.2.2.2.1, hts⟩ hM ⟨callB_wl hf hR hN hlk hdd hna, hts _ hstat⟩ ⟨PcO_blind w _ σ, fun U hU hW => ⟨rfl, by rw [hU]; exact hH, hf.2.2.2.2.2.2.2.2.warm hW⟩⟩ rfl (by rw [List.length_map]) hL.1 rfl ?_ hd ⟨by have := hR.2.2.1; omega, by have := hR.2.2.2; omega⟩) k
  show 2 * 0 + ((rest.map (vmp w)).map fun v => v.category).sum ≤ 8
  rw [vmp_sum]
  omega
theorem rw_callI {N : MR} {idx d' n2 a : Nat} (As : List Value) {rest : List Value} {Q2 : Option Value → PS → Prop} (hd : decode M.2.1 pc = .ok (.invokespecial idx, 3)) (hN : CaOK N) (hret : N.2.2.2 = none) (hnm : N.1.name = "<init>") (hlk : Cond.methodLink M.1.cls idx N.1 ∈ WL) (hins : Cond.instanceMethod N.1 ∈ WL) (hst : st = As.reverse ++ .ref a :: rest) (hna : (parseMethodDescriptor N.1.desc).map (fun q => q.parameters.length) = some As.length) (hsl : (lg_sl (.ref a :: As)).length ≤ N.2.2.1) (hr8 : (rest.map fun v => v.category).sum ≤ 8) (hdd : d' < d) (h12 : σ.2.2 ≤ n2) (h21 : n2 ≤ n1)
    (hc : Ct N d' σ.2.2 n2 (.ref a :: As) σ Q2) (k : ∀ r σ2, Q2 r σ2 → σ2.2.2 = n2 → RW M d n0 n1 (pc + 3) L (r.toList ++ rest) σ2 Q) : RW M d n0 n1 pc L st σ Q := by
  subst hst
  intro w p l e R s m args below meth c H locs ls hw hf hR hH hn hlo hL
  have hts := hf.2.2.2.2.1
  have m1 := szs_mono h12
  have m2 := szs_mono h21
  have m3 := szs_mono hn.1
  have hM := hc.met (w := w) hN.2.2.1 hsl hw rfl h12 (by omega) l
  have e0 : (As.reverse ++ Value.ref a :: rest).map (vmp w) = (As.map (vmp w)).reverse ++ .ref (w.2.1 a) :: rest.map (vmp w) := by rw [List.map_append, List.map_reverse]; rfl
  rw [e0]
  have hcb := callB_wl (n := σ.2.2) (n' := n2) hf hR hN hlk hdd hna
  rw [hret] at hM hcb
  refine after_call pc hw hf hR hn h12 h21 hlo hL (va_runI (As := As.map (vmp w)) (rest := rest.map (vmp w)) (Ts := WL) ⟨hf.1, hf.2.1, hf.2.2.1, hf.2.2.2.1, hts⟩ hM ⟨hcb, hnm, hts _ hins⟩ ⟨PcO_blind w _ σ, fun U hU hW => ⟨rfl, by rw [hU]; exact hH, hf.2.2.2.2.2.2.2.2.warm hW⟩⟩ rfl (by rw [List.length_map]) hL.1 rfl ?_ hd ⟨by have := hR.2.2.1; omega, by have := hR.2.2.2; omega⟩) k
  show 2 * 0 + ((rest.map (vmp w)).map fun v => v.category).sum ≤ 8
  rw [vmp_sum]
  omega
theorem rw_callIN {N : MR} {idx d' n2 a : Nat} (As : List Value) {rest : List Value} {Q2 : Option Value → PS → Prop} (hd : decode M.2.1 pc = .ok (.invokespecial idx, 3)) (hN : CaOK N) (hret : N.2.2.2 = none) (hnm : N.1.name = "<init>") (host : String) (hlk : Cond.methodLinkNest M.1.cls idx N.1 host ∈ nestL) (hins : Cond.instanceMethod N.1 ∈ WL) (hst : st = As.reverse ++ .ref a :: rest) (hna : (parseMethodDescriptor N.1.desc).map (fun q => q.parameters.length) = some As.length) (hsl : (lg_sl (.ref a :: As)).length ≤ N.2.2.1) (hr8 : (rest.map fun v => v.category).sum ≤ 8) (hdd : d' < d) (h12 : σ.2.2 ≤ n2) (h21 : n2 ≤ n1)
    (hc : Ct N d' σ.2.2 n2 (.ref a :: As) σ Q2) (k : ∀ r σ2, Q2 r σ2 → σ2.2.2 = n2 → RW M d n0 n1 (pc + 3) L (r.toList ++ rest) σ2 Q) : RW M d n0 n1 pc L st σ Q := by
  subst hst
  intro w p l e R s m args below meth c H locs ls hw hf hR hH hn hlo hL
  have hts := hf.2.2.2.2.1
  have m1 := szs_mono h12
  have m2 := szs_mono h21
  have m3 := szs_mono hn.1
  have hM := hc.met (w := w) hN.2.2.1 hsl hw rfl h12 (by omega) l
  have e0 : (As.reverse ++ Value.ref a :: rest).map (vmp w) = (As.map (vmp w)).reverse ++ .ref (w.2.1 a) :: rest.map (vmp w) := by rw [List.map_append, List.map_reverse]; rfl
  rw [e0]
  have hcn : va_CN R s args M.1.cls idx N.1 host N.2.1 N.2.2.1 N.2.2.2 (Cond.code N.1 N.2.1 N.2.2.1 N.2.2.2 :: WL) (rmD d' σ.2.2 n2) (n2 - σ.2.2) (szs n2 - szs σ.2.2) As.length :=
    va_cnB As.length hts (wl_goodIn (fun _ h => h) (code_in hN)) rfl rfl rfl (hf.2.2.2.2.2.2.2.2.2.1 _ hlk) (hts _ hN.2.1) ⟨hN.2.2.2.1.1, hN.2.2.2.1.2, hna⟩ ⟨by have := hR.1; show d' + 1 ≤ _; omega, by have := hR.2.1; have := hN.2.2.2.2; show 8 + (N.2.2.1 + 11) + 80 * d' ≤ _; omega⟩
  rw [hret] at hM hcn
  refine after_call pc hw hf hR hn h12 h21 hlo hL (va_runIN (As := As.map (vmp w)) (rest := rest.map (vmp w)) (Ts := WL) ⟨hf.1, hf.2.1, hf.2.2.1, hf.2.2.2.1, hts⟩ hM ⟨hcn, hnm, hts _ hins⟩ ⟨PcO_blind w _ σ, fun U hU hW => ⟨rfl, by rw [hU]; exact hH, hf.2.2.2.2.2.2.2.2.warm hW⟩⟩ rfl (by rw [List.length_map]) hL.1 rfl ?_ hd ⟨by have := hR.2.2.1; omega, by have := hR.2.2.2; omega⟩) k
  show 2 * 0 + ((rest.map (vmp w)).map fun v => v.category).sum ≤ 8
  rw [vmp_sum]
  omega
end CL
