/-! ===== rows: fields, arrays, new cells ===== -/
/-- what the tables say of class number ci -/
def ClsOK (ci : Nat) : Prop := ∃ q : vw_C, clsL[ci]? = some q ∧ (∀ x ∈ u_ws q.1 q.2.1 q.2.2, x ∈ WL) ∧ (∀ k, k < q.2.2 → parseFieldDescriptor (q.2.1 k).2.2.1 = some (fty ci k)) ∧ (∀ a, a < q.2.2 → ∀ b, b < q.2.2 → a ≠ b → (q.2.1 a).2.1 ≠ (q.2.1 b).2.1) ∧ Cond.instantiable q.1 q.2.2 ∈ WL ∧ Cond.initialized q.1 ∈ WL
/-- the place idx of the class own's pool is field j of class ci -/
def FldOK (own : String) (idx ci j : Nat) : Prop := ∃ q : vw_C, clsL[ci]? = some q ∧ j < q.2.2 ∧ Cond.fieldLink own idx (q.2.1 j).1 (q.2.1 j).2.1 (q.2.1 j).2.2.1 ∈ WL
theorem nfl_of {ci : Nat} {q : vw_C} (h : clsL[ci]? = some q) : nfl ci = q.2.2 := by unfold nfl; rw [h]
theorem av_i {w : Wd} {σ : PS} {k ty j : Nat} (h1 : ty ≠ 1) (h2 : ty ≤ 3) : av w σ k ty j = .int (σ.1.1 k j) := by unfold av; rw [if_neg h1, if_pos h2]
theorem av_l {w : Wd} {σ : PS} {k j : Nat} : av w σ k 1 j = .long (σ.1.2 k j) := by unfold av; rw [if_pos rfl]
theorem av_r {w : Wd} {σ : PS} {k ty j : Nat} (h : 3 < ty) : av w σ k ty j = va_rf ((σ.2.1 k j).map w.2.1) := by unfold av; rw [if_neg (by omega), if_neg (by omega)]
theorem fv_i {w : Wd} {σ : PS} {k ci j : Nat} (h : isRt (fty ci j) = false) : fv w σ k ci j = .int (σ.1.1 k j) := by unfold fv; rw [h]; rfl
theorem fv_r {w : Wd} {σ : PS} {k ci j : Nat} (h : isRt (fty ci j) = true) : fv w σ k ci j = va_rf ((σ.2.1 k j).map w.2.1) := by unfold fv; rw [if_pos h]
section HR
variable {M : MR} {d n0 n1 : Nat} (pc : Nat) {L : List (Nat × Value)} {st : List Value} {σ : PS} {Q : Option Value → PS → Prop}
theorem rw_getV {idx a : Nat} (ci j : Nat) (hcl : ClsOK ci) (hd : decode M.2.1 pc = .ok (.getfield idx, 3)) (hl : lay a = .inl ci) (ha : a < σ.2.2) (hfk : FldOK M.1.cls idx ci j) (v : Value) (hv : ∀ w : Wd, vmp w v = fv w σ a ci j) (k : RW M d n0 n1 (pc + 3) L (v :: st) σ Q) : RW M d n0 n1 pc L (.ref a :: st) σ Q := by
  intro w p l e R s m args below meth c H locs ls hw hf hR hH hn hlo hL
  obtain ⟨q, hc, hin, hty, hnm, -⟩ := hcl
  obtain ⟨q', hc', hj, hlk⟩ := hfk
  cases hc.symm.trans hc'
  obtain ⟨cell, q1, q2, q3, q4⟩ := hH.obj ha hl
  rw [nfl_of hc] at q4
  have hK := hf.2.2.2.2.2.2.2.2.1
  obtain ⟨hS, hfc, kC, hkC, hkind⟩ := hK.1 ci _ hc
  obtain ⟨cf, kf, fi, f, hi, hsl⟩ := hS j hj
  have hts := hf.2.2.2.2.1
  refine W.getf hf.1 hf.2.1 hf.2.2.2.1 (hts _ hlk) hi (u_facts hfc hkC (u_lays hts hin hj) hi).1 q1 (by rw [q3]; exact fun h => by cases h) (v := vmp w v) ?_ rfl rfl hd (k w p l e R s m args below meth c H locs ls hw hf hR hH hn hlo hL)
  rw [hsl, q4 j hj, hv]
theorem rw_getI {idx a : Nat} (ci j : Nat) (hcl : ClsOK ci) (hd : decode M.2.1 pc = .ok (.getfield idx, 3)) (hl : lay a = .inl ci) (ha : a < σ.2.2) (hfk : FldOK M.1.cls idx ci j) (ht : isRt (fty ci j) = false) (k : RW M d n0 n1 (pc + 3) L (.int (σ.1.1 a j) :: st) σ Q) : RW M d n0 n1 pc L (.ref a :: st) σ Q :=
  rw_getV pc ci j hcl hd hl ha hfk (.int (σ.1.1 a j)) (fun w => by rw [fv_i ht]; rfl) k
theorem rw_getR {idx a b : Nat} (ci j : Nat) (hcl : ClsOK ci) (hd : decode M.2.1 pc = .ok (.getfield idx, 3)) (hl : lay a = .inl ci) (ha : a < σ.2.2) (hfk : FldOK M.1.cls idx ci j) (ht : isRt (fty ci j) = true) (hr : σ.2.1 a j = some b) (k : RW M d n0 n1 (pc + 3) L (.ref b :: st) σ Q) : RW M d n0 n1 pc L (.ref a :: st) σ Q :=
  rw_getV pc ci j hcl hd hl ha hfk (.ref b) (fun w => by rw [fv_r ht, hr]; rfl) k
theorem rw_putV {idx a : Nat} (ci j : Nat) (hcl : ClsOK ci) (hd : decode M.2.1 pc = .ok (.putfield idx, 3)) (hl : lay a = .inl ci) (ha : a < σ.2.2) (hfk : FldOK M.1.cls idx ci j) (hfin : (∀ q : vw_C, clsL[ci]? = some q → (q.2.1 j).2.2.2 = false) ∨ ((∀ q : vw_C, clsL[ci]? = some q → (q.2.1 j).1 = M.1.cls) ∧ M.1.name = "<init>")) (v : Value) (hn9 : ∀ w : Wd, narrow (fty ci j) (vmp w v) = vmp w v) (hf9 : ∀ w : Wd, fits (fty ci j) (vmp w v) = true) (σ2 : PS) (hs2 : σ2.2.2 = σ.2.2)
    (hv2 : ∀ (w : Wd) (i : Nat), fv w σ2 a ci i = if i = j then vmp w v else fv w σ a ci i) (hk2 : ∀ k i, k ≠ a → σ2.1.1 k i = σ.1.1 k i ∧ σ2.1.2 k i = σ.1.2 k i ∧ σ2.2.1 k i = σ.2.1 k i) (k : RW M d n0 n1 (pc + 3) L st σ2 Q) : RW M d n0 n1 pc L (v :: .ref a :: st) σ Q := by
  intro w p l e R s m args below meth c H locs ls hw hf hR hH hn hlo hL
  obtain ⟨q, hc, hin, hty, hnm, -⟩ := hcl
  obtain ⟨q', hc', hj, hlk⟩ := hfk
  cases hc.symm.trans hc'
  obtain ⟨cell, q1, q2, q3, q4⟩ := hH.obj ha hl
  rw [nfl_of hc] at q4
  have hK := hf.2.2.2.2.2.2.2.2.1
  have hts := hf.2.2.2.2.1
  have hap := va_apart (own := M.1.cls) hts hin (fty ci) hty hnm hK hc
  obtain ⟨hS, hfc, kC, hkC, hkind⟩ := hK.1 ci _ hc
  obtain ⟨cf, kf, fi, f, hi, hsl⟩ := hS j hj
  have hlay := hts _ (hin _ (u_in_lay hj))
  have hst := (u_facts hfc hkC (u_lays hts hin hj) hi).1
  have fin : ∀ H' : Heap, H'[w.2.1 a]? = some (cell.setSlot f.slot (vmp w v)) → H'.size = H.size → (∀ x : Nat, x ≠ w.2.1 a → H'[x]? = H[x]?) → W p l e R s m args below meth c H' (locs ++ [⟨w.2.1 a, f.slot⟩]) (σ.2.2 - n0) (szs σ.2.2 - szs n0) (MQ below (QcO w n1 Q) args s (n1 - n0) (szs n1 - szs n0) (fun a => w.1 ≤ a)) (F0 m (pc + 3) ls (st.map (vmp w))) := by
    intro H' e1 e2 e3
    rw [hsl] at e1
    have hrel : Rel w σ2 H' := by
      refine hH.put hw ha e2 e3 hs2 (cellR_obj hl ?_) hk2
      rw [nfl_of hc]
      refine t_OB.to (V := updV (fun i => fv w σ a ci i) j (vmp w v)) ⟨_, e1, q2, q3, t_set q4 hap hj _⟩ (fun i _ => ?_)
      rw [hv2 w i]
      rfl
    rw [← hs2] at hn ⊢
    refine k w p l e R s m args below meth c H' _ ls hw hf hR hrel hn (fun x hx => ?_) hL
    rcases List.mem_append.mp hx with h | h
    · exact hlo x h
    · rw [List.mem_singleton.mp h]
      exact hw.2 a (by have := hH.1; omega)
  unfold u_lay at hlay
  rcases hfin with hfin | ⟨hdecl, hini⟩
  · rw [if_neg (by rw [hfin _ hc]; decide)] at hlay
    have h6 := u_store hfc hkC hkind hlay hi (hty j hj) (hn9 w) (hf9 w)
    exact W.putK hf.1 hf.2.1 (f := f) ⟨hf.2.2.2.1, hts _ hlk, ⟨_, _, _, hi⟩, hst⟩ (by rw [q2]; exact h6) q1 q3 (by rw [hsl]; exact k2_hasslot (q4 j hj)) rfl rfl hd fin
  · by_cases hfl : (q.2.1 j).2.2.2 = true
    · rw [if_pos hfl] at hlay
      have hcf : m.cls = cf := by
        obtain ⟨_, _, c', _, _, _, -, -, hf', -, -, -, hown2, -⟩ := Cond.laysFinal_spec hlay
        have e1 : c' = cf := by have := hi.symm.trans hf'; simp at this; exact this.1.symm
        rw [hdecl _ hc] at hown2
        rw [← e1]; exact Option.some.inj (hf.2.2.2.1.symm.trans hown2)
      have h6 := u_fits hfc hkC hkind (Or.inr hlay) hi (hty j hj) (hn9 w) (hf9 w)
      exact W.putFinK hf.1 hf.2.1 hf.2.2.2.1 (hts _ hlk) hi hst hcf (hf.2.2.2.2.2.2.2.1.trans hini) (by rw [q2]; exact h6) q1 q3 (by rw [hsl]; exact k2_hasslot (q4 j hj)) rfl rfl hd fin
    · rw [if_neg hfl] at hlay
      have h6 := u_store hfc hkC hkind hlay hi (hty j hj) (hn9 w) (hf9 w)
      exact W.putK hf.1 hf.2.1 (f := f) ⟨hf.2.2.2.1, hts _ hlk, ⟨_, _, _, hi⟩, hst⟩ (by rw [q2]; exact h6) q1 q3 (by rw [hsl]; exact k2_hasslot (q4 j hj)) rfl rfl hd fin
theorem rw_putI {idx a : Nat} {v : Int32} (ci j : Nat) (hcl : ClsOK ci) (hd : decode M.2.1 pc = .ok (.putfield idx, 3)) (hl : lay a = .inl ci) (ha : a < σ.2.2) (hfk : FldOK M.1.cls idx ci j) (hfin : (∀ q : vw_C, clsL[ci]? = some q → (q.2.1 j).2.2.2 = false) ∨ ((∀ q : vw_C, clsL[ci]? = some q → (q.2.1 j).1 = M.1.cls) ∧ M.1.name = "<init>")) (ht : isRt (fty ci j) = false) (hn9 : narrow (fty ci j) (.int v) = .int v) (hf9 : fits (fty ci j) (.int v) = true)
    (k : RW M d n0 n1 (pc + 3) L st (wI σ.1 a j v, σ.2) Q) : RW M d n0 n1 pc L (.int v :: .ref a :: st) σ Q := by
  refine rw_putV pc ci j hcl hd hl ha hfk hfin (.int v) (fun _ => hn9) (fun _ => hf9) (wI σ.1 a j v, σ.2) rfl (fun w i => ?_) (fun x i hx => ⟨?_, rfl, rfl⟩) k
  · by_cases hi : i = j
    · subst hi
      rw [fv_i ht, if_pos rfl]
      simp [wI, vmp]
    · rw [if_neg hi]
      simp [fv, wI, hi]
  · simp [wI, hx]
theorem rw_putR {idx a b : Nat} (ci j : Nat) (hcl : ClsOK ci) (hd : decode M.2.1 pc = .ok (.putfield idx, 3)) (hl : lay a = .inl ci) (ha : a < σ.2.2) (hfk : FldOK M.1.cls idx ci j) (hfin : (∀ q : vw_C, clsL[ci]? = some q → (q.2.1 j).2.2.2 = false) ∨ ((∀ q : vw_C, clsL[ci]? = some q → (q.2.1 j).1 = M.1.cls) ∧ M.1.name = "<init>")) (ht : isRt (fty ci j) = true)
    (k : RW M d n0 n1 (pc + 3) L st (σ.1, wR σ.2.1 a j (some b), σ.2.2) Q) : RW M d n0 n1 pc L (.ref b :: .ref a :: st) σ Q := by
  refine rw_putV pc ci j hcl hd hl ha hfk hfin (.ref b) (fun w => ?_) (fun w => ?_) (σ.1, wR σ.2.1 a j (some b), σ.2.2) rfl (fun w i => ?_) (fun x i hx => ⟨rfl, rfl, ?_⟩) k
  · show narrow _ (Value.ref _) = _
    cases fty ci j <;> rfl
  · show fits _ (Value.ref _) = true
    generalize fty ci j = z at ht
    cases z <;> first | rfl | (cases ht; done)
  · by_cases hi : i = j
    · subst hi
      rw [fv_r ht, if_pos rfl]
      simp [wR, vmp, va_rf]
    · rw [if_neg hi]
      simp [fv, wR, hi]
  · simp [wR, hx]
theorem inb_lt {i : Int32} {n : Nat} (h : inb i n) : i.toNatClampNeg < n := Nat.not_le.mp fun q => h (Or.inr q)
theorem rw_iald {a n : Nat} {i : Int32} (hd : decode M.2.1 pc = .ok (.iaload, 1)) (hl : lay a = .inr (0, n)) (ha : a < σ.2.2) (hi : inb i n) (k : RW M d n0 n1 (pc + 1) L (.int (σ.1.1 a i.toNatClampNeg) :: st) σ Q) : RW M d n0 n1 pc L (.int i :: .ref a :: st) σ Q := by
  intro w p l e R s m args below meth c H locs ls hw hf hR hH hn hlo hL
  have hK := (hf.2.2.2.2.2.2.2.2.1.2 0 _ rfl).1
  exact W.iald (v := .int (σ.1.1 a i.toNatClampNeg)) hf.1 hf.2.1 (hH.arr ha hl) (hK n _) (fun q => by cases q) (by rw [arrV_size]; exact hi) (by rw [arrV_read _ _ (inb_lt hi)]; rfl) rfl rfl hd (k w p l e R s m args below meth c H locs ls hw hf hR hH hn hlo hL)
theorem rw_lald {a n : Nat} {i : Int32} (hd : decode M.2.1 pc = .ok (.laload, 1)) (hl : lay a = .inr (1, n)) (ha : a < σ.2.2) (hi : inb i n) (k : RW M d n0 n1 (pc + 1) L (.long (σ.1.2 a i.toNatClampNeg) :: st) σ Q) : RW M d n0 n1 pc L (.int i :: .ref a :: st) σ Q := by
  intro w p l e R s m args below meth c H locs ls hw hf hR hH hn hlo hL
  have hK := (hf.2.2.2.2.2.2.2.2.1.2 1 _ rfl).1
  exact W.lald (v := .long (σ.1.2 a i.toNatClampNeg)) hf.1 hf.2.1 (hH.arr ha hl) (hK n _) (fun q => by cases q) (by rw [arrV_size]; exact hi) (by rw [arrV_read _ _ (inb_lt hi)]; rfl) rfl rfl hd (k w p l e R s m args below meth c H locs ls hw hf hR hH hn hlo hL)
theorem rw_bald {a n : Nat} {i : Int32} (hd : decode M.2.1 pc = .ok (.baload, 1)) (hl : lay a = .inr (2, n)) (ha : a < σ.2.2) (hi : inb i n) (k : RW M d n0 n1 (pc + 1) L (.int (σ.1.1 a i.toNatClampNeg) :: st) σ Q) : RW M d n0 n1 pc L (.int i :: .ref a :: st) σ Q := by
  intro w p l e R s m args below meth c H locs ls hw hf hR hH hn hlo hL
  have hK := (hf.2.2.2.2.2.2.2.2.1.2 2 _ rfl).1
  exact W.bald (v := .int (σ.1.1 a i.toNatClampNeg)) hf.1 hf.2.1 (hH.arr ha hl) (hK n _) (fun q => by cases q) (by rw [arrV_size]; exact hi) (by rw [arrV_read _ _ (inb_lt hi)]; rfl) rfl rfl hd (k w p l e R s m args below meth c H locs ls hw hf hR hH hn hlo hL)
theorem rw_zald {a n : Nat} {i : Int32} (hd : decode M.2.1 pc = .ok (.baload, 1)) (hl : lay a = .inr (3, n)) (ha : a < σ.2.2) (hi : inb i n) (k : RW M d n0 n1 (pc + 1) L (.int (σ.1.1 a i.toNatClampNeg) :: st) σ Q) : RW M d n0 n1 pc L (.int i :: .ref a :: st) σ Q := by
  intro w p l e R s m args below meth c H locs ls hw hf hR hH hn hlo hL
  have hK := (hf.2.2.2.2.2.2.2.2.1.2 3 _ rfl).1
  exact W.zald (v := .int (σ.1.1 a i.toNatClampNeg)) hf.1 hf.2.1 (hH.arr ha hl) (hK n _) (fun q => by cases q) (by rw [arrV_size]; exact hi) (by rw [arrV_read _ _ (inb_lt hi)]; rfl) rfl rfl hd (k w p l e R s m args below meth c H locs ls hw hf hR hH hn hlo hL)
theorem rw_aald {a n b : Nat} {i : Int32} (ty : Nat) (h3 : ty = 4 ∨ ty = 5) (hd : decode M.2.1 pc = .ok (.aaload, 1)) (hl : lay a = .inr (ty, n)) (ha : a < σ.2.2) (hi : inb i n) (hr : σ.2.1 a i.toNatClampNeg = some b) (k : RW M d n0 n1 (pc + 1) L (.ref b :: st) σ Q) : RW M d n0 n1 pc L (.int i :: .ref a :: st) σ Q := by
  intro w p l e R s m args below meth c H locs ls hw hf hR hH hn hlo hL
  have hv : (arrV (w.2.2.2.1 ty) n (fun j => av w σ a ty j)).slots[i.toNatClampNeg]? = some (.ref (w.2.1 b)) := by
    rw [arrV_read _ _ (inb_lt hi), av_r (by rcases h3 with h | h <;> omega), hr]
    rfl
  rcases h3 with rfl | rfl
  · have hK := (hf.2.2.2.2.2.2.2.2.1.2 4 _ rfl).1
    exact W.aald (v := .ref (w.2.1 b)) (ty := .object RX5) hf.1 hf.2.1 (hH.arr ha hl) (hK n _) rfl (fun q => by cases q) (by rw [arrV_size]; exact hi) hv rfl rfl hd (k w p l e R s m args below meth c H locs ls hw hf hR hH hn hlo hL)
  · have hK := (hf.2.2.2.2.2.2.2.2.1.2 5 _ rfl).1
    exact W.aald (v := .ref (w.2.1 b)) (ty := .array .int) hf.1 hf.2.1 (hH.arr ha hl) (hK n _) rfl (fun q => by cases q) (by rw [arrV_size]; exact hi) hv rfl rfl hd (k w p l e R s m args below meth c H locs ls hw hf hR hH hn hlo hL)
theorem hlo_app {w : Wd} {locs : List Loc} {a j : Nat} (hlo : ∀ q ∈ locs, w.1 ≤ q.base) (ha : w.1 ≤ a) : ∀ q ∈ locs ++ [⟨a, j⟩], w.1 ≤ q.base := by
  intro x hx
  rcases List.mem_append.mp hx with h | h
  · exact hlo x h
  · rw [List.mem_singleton.mp h]
    exact ha
theorem rel_arr {w : Wd} {σ σ2 : PS} {H H1 : Heap} {a n ty j : Nat} {v : Value} (hw : WOK w) (hH : Rel w σ H) (ha : a < σ.2.2) (hl : lay a = .inr (ty, n)) (e : H1[w.2.1 a]? = some ((arrV (w.2.2.2.1 ty) n (fun j => av w σ a ty j)).setSlot j v)) (z : H1.size = H.size) (oq : ∀ q : Nat, q ≠ w.2.1 a → H1[q]? = H[q]?) (hs2 : σ2.2.2 = σ.2.2)
    (hv2 : ∀ i : Nat, av w σ2 a ty i = if i = j then v else av w σ a ty i) (hk2 : ∀ k i, k ≠ a → σ2.1.1 k i = σ.1.1 k i ∧ σ2.1.2 k i = σ.1.2 k i ∧ σ2.2.1 k i = σ.2.1 k i) : Rel w σ2 H1 := by
  refine hH.put hw ha z oq hs2 (cellR_arr hl ?_) hk2
  rw [e, arrV_store]
  congr 2
  funext i
  rw [hv2 i]
  rfl
theorem rw_iast {a n : Nat} {i x : Int32} (hd : decode M.2.1 pc = .ok (.iastore, 1)) (hl : lay a = .inr (0, n)) (ha : a < σ.2.2) (hi : inb i n) (k : RW M d n0 n1 (pc + 1) L st (wI σ.1 a i.toNatClampNeg x, σ.2) Q) : RW M d n0 n1 pc L (.int x :: .int i :: .ref a :: st) σ Q := by
  intro w p l e R s m args below meth c H locs ls hw hf hR hH hn hlo hL
  have hK := (hf.2.2.2.2.2.2.2.2.1.2 0 _ rfl).1
  refine W.iast hf.1 hf.2.1 (hH.arr ha hl) (hK n _) (fun q => by cases q) (by rw [arrV_size]; exact hi) rfl rfl hd fun H1 e1 z oq => ?_
  refine k w p l e R s m args below meth c H1 _ ls hw hf hR (rel_arr hw hH ha hl e1 z oq rfl (fun j => ?_) (fun q j hq => ⟨?_, rfl, rfl⟩)) hn (hlo_app hlo (hw.2 a (by have := hH.1; omega))) hL
  · rw [av_i (by omega) (by omega), av_i (by omega) (by omega)]
    by_cases hj : j = i.toNatClampNeg <;> simp [wI, hj]
  · simp [wI, hq]
theorem rw_last {a n : Nat} {i : Int32} {x : Int64} (hd : decode M.2.1 pc = .ok (.lastore, 1)) (hl : lay a = .inr (1, n)) (ha : a < σ.2.2) (hi : inb i n) (k : RW M d n0 n1 (pc + 1) L st (wJ σ.1 a i.toNatClampNeg x, σ.2) Q) : RW M d n0 n1 pc L (.long x :: .int i :: .ref a :: st) σ Q := by
  intro w p l e R s m args below meth c H locs ls hw hf hR hH hn hlo hL
  have hK := (hf.2.2.2.2.2.2.2.2.1.2 1 _ rfl).1
  refine W.last hf.1 hf.2.1 (hH.arr ha hl) (hK n _) (fun q => by cases q) (by rw [arrV_size]; exact hi) rfl rfl hd fun H1 e1 z oq => ?_
  refine k w p l e R s m args below meth c H1 _ ls hw hf hR (rel_arr hw hH ha hl e1 z oq rfl (fun j => ?_) (fun q j hq => ⟨rfl, ?_, rfl⟩)) hn (hlo_app hlo (hw.2 a (by have := hH.1; omega))) hL
  · rw [av_l, av_l]
    by_cases hj : j = i.toNatClampNeg <;> simp [wJ, hj]
  · simp [wJ, hq]
theorem rw_bast {a n : Nat} {i x : Int32} (hd : decode M.2.1 pc = .ok (.bastore, 1)) (hl : lay a = .inr (2, n)) (ha : a < σ.2.2) (hi : inb i n) (k : RW M d n0 n1 (pc + 1) L st (wI σ.1 a i.toNatClampNeg x.toInt8.toInt32, σ.2) Q) : RW M d n0 n1 pc L (.int x :: .int i :: .ref a :: st) σ Q := by
  intro w p l e R s m args below meth c H locs ls hw hf hR hH hn hlo hL
  have hK := (hf.2.2.2.2.2.2.2.2.1.2 2 _ rfl).1
  refine W.bast hf.1 hf.2.1 (hH.arr ha hl) (hK n _) (fun q => by cases q) (by rw [arrV_size]; exact hi) rfl rfl hd fun H1 e1 z oq => ?_
  refine k w p l e R s m args below meth c H1 _ ls hw hf hR (rel_arr hw hH ha hl e1 z oq rfl (fun j => ?_) (fun q j hq => ⟨?_, rfl, rfl⟩)) hn (hlo_app hlo (hw.2 a (by have := hH.1; omega))) hL
  · rw [av_i (by omega) (by omega), av_i (by omega) (by omega)]
    by_cases hj : j = i.toNatClampNeg <;> simp [wI, hj, narrow]
  · simp [wI, hq]
theorem rw_zast {a n : Nat} {i x : Int32} (hd : decode M.2.1 pc = .ok (.bastore, 1)) (hl : lay a = .inr (3, n)) (ha : a < σ.2.2) (hi : inb i n) (k : RW M d n0 n1 (pc + 1) L st (wI σ.1 a i.toNatClampNeg (x &&& 1), σ.2) Q) : RW M d n0 n1 pc L (.int x :: .int i :: .ref a :: st) σ Q := by
  intro w p l e R s m args below meth c H locs ls hw hf hR hH hn hlo hL
  have hK := (hf.2.2.2.2.2.2.2.2.1.2 3 _ rfl).1
  refine W.zast hf.1 hf.2.1 (hH.arr ha hl) (hK n _) (fun q => by cases q) (by rw [arrV_size]; exact hi) rfl rfl hd fun H1 e1 z oq => ?_
  refine k w p l e R s m args below meth c H1 _ ls hw hf hR (rel_arr hw hH ha hl e1 z oq rfl (fun j => ?_) (fun q j hq => ⟨?_, rfl, rfl⟩)) hn (hlo_app hlo (hw.2 a (by have := hH.1; omega))) hL
  · rw [av_i (by omega) (by omega), av_i (by omega) (by omega)]
    by_cases hj : j = i.toNatClampNeg <;> simp [wI, hj, narrow]
  · simp [wI, hq]
theorem rw_alen {a ty n : Nat} {v : Int32} (hty : ty ≤ 5) (hd : decode M.2.1 pc = .ok (.arraylength, 1)) (hl : lay a = .inr (ty, n)) (ha : a < σ.2.2) (hv : Int32.ofNat n = v) (k : RW M d n0 n1 (pc + 1) L (.int v :: st) σ Q) : RW M d n0 n1 pc L (.ref a :: st) σ Q := by
  intro w p l e R s m args below meth c H locs ls hw hf hR hH hn hlo hL
  have hK : ∃ t : FieldType, ArrOfT s (w.2.2.2.1 ty) t := by
    have h0 := hf.2.2.2.2.2.2.2.2.1.2
    rcases (show ty = 0 ∨ ty = 1 ∨ ty = 2 ∨ ty = 3 ∨ ty = 4 ∨ ty = 5 by omega) with rfl | rfl | rfl | rfl | rfl | rfl
    · exact ⟨_, (h0 0 _ rfl).1⟩
    · exact ⟨_, (h0 1 _ rfl).1⟩
    · exact ⟨_, (h0 2 _ rfl).1⟩
    · exact ⟨_, (h0 3 _ rfl).1⟩
    · exact ⟨_, (h0 4 _ rfl).1⟩
    · exact ⟨_, (h0 5 _ rfl).1⟩
  obtain ⟨t, hK⟩ := hK
  exact W.alen (n := v) hf.1 hf.2.1 (hH.arr ha hl) (hK n _) (by rw [arrV_size]; exact hv) rfl rfl hd (k w p l e R s m args below meth c H locs ls hw hf hR hH hn hlo hL)
end HR
