/-! ===== rows for constructors: the memory by an equation, the references and the count in the open ===== -/
section RC
variable {M : MR} {d n0 n1 n : Nat} (pc : Nat) {L : List (Nat × Value)} {st : List Value} {μ : Mem} {Rf : Nat → Nat → Option Nat} {Q : Option Value → PS → Prop} {α : Type} {res : α}
theorem rc_new {idx : Nat} {K : Mem → Option α} (ci : Nat) (hcl : ClsOK ci) (hp : ∀ j, j < nfl ci → fty ci j = .int ∨ fty ci j = .boolean ∨ isRt (fty ci j) = true) (hd : decode M.2.1 pc = .ok (.new idx, 3)) (hl : lay n = .inl ci) (hk : ∀ q : vw_C, clsL[ci]? = some q → Cond.classLink M.1.cls idx q.1 ∈ WL) (hlt : n < n1) (h : nm (zM μ n) K = some res)
    (k : ∀ μ1 : Mem, K μ1 = some res → RW M d n0 n1 (pc + 3) L (.ref n :: st) (μ1, zR Rf n, n + 1) Q) : RW M d n0 n1 pc L st (μ, Rf, n) Q := rw_new pc ci hcl hp hd hl hk hlt (k _ h)
theorem rc_newa {ty ln : Nat} {v : Int32} {K : Mem → Option α} (atype : ArrayType) (hat : newarray.typeOf atype = aty ty) (ht3 : ty ≤ 3) (hd : decode M.2.1 pc = .ok (.newarray atype, 2)) (hl : lay n = .inr (ty, ln)) (hv : ¬ v < 0) (hvn : v.toNatClampNeg = ln) (hbig : ln ≤ 60000) (hk : Cond.arrayClass (aty ty) ∈ WL) (hlt : n < n1) (h : nm (zM μ n) K = some res)
    (k : ∀ μ1 : Mem, K μ1 = some res → RW M d n0 n1 (pc + 2) L (.ref n :: st) (μ1, zR Rf n, n + 1) Q) : RW M d n0 n1 pc L (.int v :: st) (μ, Rf, n) Q := rw_newaT pc atype hat ht3 hd hl hv hvn hbig hk hlt (k _ h)
theorem rc_anew {ln idx : Nat} {v : Int32} {K : Mem → Option α} (hd : decode M.2.1 pc = .ok (.anewarray idx, 3)) (hl : lay n = .inr (4, ln)) (hv : ¬ v < 0) (hvn : v.toNatClampNeg = ln) (hbig : ln ≤ 60000) (hk : Cond.classLink M.1.cls idx RX5 ∈ WL) (hlt : n < n1) (h : nm (zM μ n) K = some res)
    (k : ∀ μ1 : Mem, K μ1 = some res → RW M d n0 n1 (pc + 3) L (.ref n :: st) (μ1, zR Rf n, n + 1) Q) : RW M d n0 n1 pc L (.int v :: st) (μ, Rf, n) Q := rw_anew pc hd hl hv hvn hbig hk hlt (k _ h)
theorem rc_mna {idx N K9 : Nat} {x y : Int32} {K : Mem → Option α} (hd : decode M.2.1 pc = .ok (.multianewarray idx 2, 4)) (hl : lay n = .inr (5, N)) (hr : ∀ i, i < N → lay (n + 1 + i) = .inr (0, K9)) (hx : ¬ x < 0) (hxN : x.toNatClampNeg = N) (hy : ¬ y < 0) (hyK : y.toNatClampNeg = K9) (hN : N ≤ 60000) (hK9 : K9 ≤ 60000) (hk : Cond.classLink M.1.cls idx "[[I" ∈ WL) (ha : Cond.arrayClass (aty 0) ∈ WL) (hlt : n + N < n1) (h : nm (zMs μ n N) K = some res)
    (k : ∀ μ1 : Mem, K μ1 = some res → RW M d n0 n1 (pc + 4) L (.ref n :: st) (μ1, zRs Rf n N, n + 1 + N) Q) : RW M d n0 n1 pc L (.int y :: .int x :: st) (μ, Rf, n) Q := rw_mna pc hd hl hr hx hxN hy hyK hN hK9 hk ha hlt (k _ h)
theorem rc_putI {idx a : Nat} {v : Int32} {K : Mem → Option α} (ci j : Nat) (hcl : ClsOK ci) (hd : decode M.2.1 pc = .ok (.putfield idx, 3)) (hl : lay a = .inl ci) (ha : a < n) (hfk : FldOK M.1.cls idx ci j) (hdc : ∀ q : vw_C, clsL[ci]? = some q → (q.2.1 j).1 = M.1.cls) (hin : M.1.name = "<init>") (ht : isRt (fty ci j) = false) (hn9 : narrow (fty ci j) (.int v) = .int v) (hf9 : fits (fty ci j) (.int v) = true) (h : nm (wI μ a j v) K = some res)
    (k : ∀ μ1 : Mem, K μ1 = some res → RW M d n0 n1 (pc + 3) L st (μ1, Rf, n) Q) : RW M d n0 n1 pc L (.int v :: .ref a :: st) (μ, Rf, n) Q := rw_putI pc ci j hcl hd hl ha hfk (Or.inr ⟨hdc, hin⟩) ht hn9 hf9 (k _ h)
theorem rc_putR {idx a b : Nat} (ci j : Nat) (hcl : ClsOK ci) (hd : decode M.2.1 pc = .ok (.putfield idx, 3)) (hl : lay a = .inl ci) (ha : a < n) (hfk : FldOK M.1.cls idx ci j) (hdc : ∀ q : vw_C, clsL[ci]? = some q → (q.2.1 j).1 = M.1.cls) (hin : M.1.name = "<init>") (ht : isRt (fty ci j) = true)
    (k : RW M d n0 n1 (pc + 3) L st (μ, wR Rf a j (some b), n) Q) : RW M d n0 n1 pc L (.ref b :: .ref a :: st) (μ, Rf, n) Q := rw_putR pc ci j hcl hd hl ha hfk (Or.inr ⟨hdc, hin⟩) ht k
/-- a constructor's contract -/
abbrev QC (μ : Mem) (Rf : Nat → Nat → Option Nat) (n : Nat) : Option Value → PS → Prop := fun r9 σ9 => r9 = none ∧ σ9 = (μ, Rf, n)
theorem rc_vret {μ2 : Mem} (hd : decode M.2.1 pc = .ok (.return_, 1)) (hr : M.2.2.2 = none) (h : some μ = some μ2) : RW M d n0 n pc L [] (μ, Rf, n) (QC μ2 Rf n) := by
  cases h
  exact rw_vret pc hd hr rfl ⟨rfl, rfl⟩
theorem rc_callI {N : MR} {idx d2 n2 a : Nat} {rest : List Value} {Rf2 : Nat → Nat → Option Nat} {f : Option Mem} {K : Mem → Option α} (hd : decode M.2.1 pc = .ok (.invokespecial idx, 3)) (hN : CaOK N) (hret : N.2.2.2 = none) (hnm : N.1.name = "<init>") (hlk : Cond.methodLink M.1.cls idx N.1 ∈ WL) (hins : Cond.instanceMethod N.1 ∈ WL) (hna : (parseMethodDescriptor N.1.desc).map (fun q => q.parameters.length) = some 0) (hsl : 1 ≤ N.2.2.1) (hr8 : (rest.map fun v => v.category).sum ≤ 8) (hdd : d2 < d) (h12 : n ≤ n2) (h21 : n2 ≤ n1)
    (hc : ∀ q, f = some q → Ct N d2 n n2 [.ref a] (μ, Rf, n) (QC q Rf2 n2)) (h : f.bind K = some res) (k : ∀ q, K q = some res → RW M d n0 n1 (pc + 3) L rest (q, Rf2, n2) Q) : RW M d n0 n1 pc L (.ref a :: rest) (μ, Rf, n) Q := by
  obtain ⟨q, hq, h⟩ := bind_g h
  exact rw_callI pc [] hd hN hret hnm hlk hins rfl hna hsl hr8 hdd h12 h21 (hc q hq) (fun r σ2 h2 _ => by obtain ⟨rfl, rfl⟩ := h2; exact k q h)
theorem rc_callIN {N : MR} {idx d2 n2 a : Nat} {rest : List Value} {Rf2 : Nat → Nat → Option Nat} {f : Option Mem} {K : Mem → Option α} (host : String) (hd : decode M.2.1 pc = .ok (.invokespecial idx, 3)) (hN : CaOK N) (hret : N.2.2.2 = none) (hnm : N.1.name = "<init>") (hlk : Cond.methodLinkNest M.1.cls idx N.1 host ∈ nestL) (hins : Cond.instanceMethod N.1 ∈ WL) (hna : (parseMethodDescriptor N.1.desc).map (fun q => q.parameters.length) = some 0) (hsl : 1 ≤ N.2.2.1) (hr8 : (rest.map fun v => v.category).sum ≤ 8) (hdd : d2 < d) (h12 : n ≤ n2) (h21 : n2 ≤ n1)
    (hc : ∀ q, f = some q → Ct N d2 n n2 [.ref a] (μ, Rf, n) (QC q Rf2 n2)) (h : f.bind K = some res) (k : ∀ q, K q = some res → RW M d n0 n1 (pc + 3) L rest (q, Rf2, n2) Q) : RW M d n0 n1 pc L (.ref a :: rest) (μ, Rf, n) Q := by
  obtain ⟨q, hq, h⟩ := bind_g h
  exact rw_callIN pc [] hd hN hret hnm host hlk hins rfl hna hsl hr8 hdd h12 h21 (hc q hq) (fun r σ2 h2 _ => by obtain ⟨rfl, rfl⟩ := h2; exact k q h)
theorem rc_callVv {N : MR} {idx d2 a : Nat} (ci : Nat) (As : List Value) {rest : List Value} {f : Option Mem} {K : Mem → Option α} (hd : decode M.2.1 pc = .ok (.invokevirtual idx, 3)) (hN : CaOK N) (hlk : Cond.methodLink M.1.cls idx N.1 ∈ WL) (hins : Cond.instanceMethod N.1 ∈ WL) (hsel : Cond.selects N.1.cls N.1 N.1 ∈ WL) (hst : st = As.reverse ++ .ref a :: rest) (hl : lay a = .inl ci) (hci : ∃ q : vw_C, clsL[ci]? = some q ∧ q.1 = N.1.cls) (ha : a < n) (hna : (parseMethodDescriptor N.1.desc).map (fun q => q.parameters.length) = some As.length) (hsl : (lg_sl (.ref a :: As)).length ≤ N.2.2.1) (hr8 : (rest.map fun v => v.category).sum ≤ 8) (hdd : d2 < d) (h1 : n ≤ n1)
    (hc : ∀ q, f = some q → Ct N d2 n n (.ref a :: As) (μ, Rf, n) (QN none q Rf n)) (h : f.bind K = some res) (k : ∀ q, K q = some res → RW M d n0 n1 (pc + 3) L rest (q, Rf, n) Q) : RW M d n0 n1 pc L st (μ, Rf, n) Q := by
  obtain ⟨q, hq, h⟩ := bind_g h
  exact rw_callV pc ci As hd hN hlk hins hsel hst hl hci ha hna hsl hr8 hdd (Nat.le_refl n) h1 (hc q hq) (fun r σ2 h2 _ => by obtain ⟨rfl, rfl⟩ := h2; exact k q h)
theorem rc_callSl {N : MR} {idx d2 : Nat} (As : List Value) {rest : List Value} {f : Option Int64} {K : Int64 → Option α} (hd : decode M.2.1 pc = .ok (.invokestatic idx, 3)) (hN : CaOK N) (hlk : Cond.methodLink M.1.cls idx N.1 ∈ WL) (hstat : Cond.static N.1 ∈ WL) (hst : st = As.reverse ++ rest) (hna : (parseMethodDescriptor N.1.desc).map (fun q => q.parameters.length) = some As.length) (hsl : (lg_sl As).length ≤ N.2.2.1) (hr8 : (rest.map fun v => v.category).sum ≤ 8) (hdd : d2 < d) (h1 : n ≤ n1)
    (hc : ∀ q, f = some q → Ct N d2 n n As (μ, Rf, n) (QN (some (.long q)) μ Rf n)) (h : f.bind K = some res) (k : ∀ q, K q = some res → RW M d n0 n1 (pc + 3) L (.long q :: rest) (μ, Rf, n) Q) : RW M d n0 n1 pc L st (μ, Rf, n) Q := by
  obtain ⟨q, hq, h⟩ := bind_g h
  exact rw_callS pc As hd hN hlk hstat hst hna hsl hr8 hdd (Nat.le_refl n) h1 (hc q hq) (fun r σ2 h2 _ => by obtain ⟨rfl, rfl⟩ := h2; exact k q h)
theorem rc_lastc {a ln j : Nat} {i : Int32} {x : Int64} {K : Mem → Option α} (hd : decode M.2.1 pc = .ok (.lastore, 1)) (hl : lay a = .inr (1, ln)) (ha : a < n) (hi : inb i ln) (hj : i.toNatClampNeg = j) (h : nm (wJ μ a j x) K = some res) (k : ∀ μ1 : Mem, K μ1 = some res → RW M d n0 n1 (pc + 1) L st (μ1, Rf, n) Q) : RW M d n0 n1 pc L (.long x :: .int i :: .ref a :: st) (μ, Rf, n) Q := by
  subst hj
  exact rw_last pc hd hl ha hi (k _ h)
end RC
/-- the places of role k that hold references -/
def rlen (k : Nat) : Nat := match lay k with
  | .inl ci => nfl ci
  | .inr q => if 3 < q.1 then q.2 else 0
theorem arrV_congr {c : ClassId} {n : Nat} {f g : Nat → Value} (h : ∀ j, j < n → f j = g j) : arrV c n f = arrV c n g := by
  unfold arrV
  congr 1
  apply Array.ext
  · simp
  · intro i h1 h2
    simp at h1
    simp [h i h1]
theorem rel_refs {w : Wd} {μ : Mem} {R R2 : Nat → Nat → Option Nat} {n : Nat} {H : Heap} (hr : ∀ k, k < n → ∀ j, j < rlen k → R k j = R2 k j) (h : Rel w (μ, R, n) H) : Rel w (μ, R2, n) H := by
  obtain ⟨h1, h2, h3, h4, h5⟩ := h
  refine ⟨h1, fun k hk => ?_, h3, h4, h5⟩
  have := h2 k hk
  have hrk := hr k hk
  unfold cellR at this ⊢
  unfold rlen at hrk
  split
  · rename_i ci hl
    rw [hl] at this hrk
    refine t_OB.to this (fun j hj => ?_)
    unfold fv
    split
    · rw [show ((μ, R, n) : PS).2.1 k j = ((μ, R2, n) : PS).2.1 k j from hrk j hj]
    · rfl
  · rename_i q hl
    rw [hl] at this hrk
    rw [show H[w.2.1 k]? = some (arrV (w.2.2.2.1 q.1) q.2 (fun j => av w (μ, R, n) k q.1 j)) from this]
    congr 1
    apply arrV_congr
    intro j hj
    unfold av
    split
    · rfl
    · split
      · rfl
      · rename_i h8 h9
        have hrk9 : ∀ j, j < (if 3 < q.1 then q.2 else 0) → R k j = R2 k j := hrk
        rw [if_pos (by omega)] at hrk9
        rw [show ((μ, R, n) : PS).2.1 k j = ((μ, R2, n) : PS).2.1 k j from hrk9 j hj]
theorem rw_refs {M : MR} {d n0 n1 n : Nat} (pc : Nat) {L : List (Nat × Value)} {st : List Value} {μ : Mem} {R R2 : Nat → Nat → Option Nat} {Q : Option Value → PS → Prop} (hr : ∀ k, k < n → ∀ j, j < rlen k → R k j = R2 k j) (k : RW M d n0 n1 pc L st (μ, R2, n) Q) : RW M d n0 n1 pc L st (μ, R, n) Q := by
  intro w p l e R9 s m args below meth c H locs ls hw hf hR hH hn hlo hL
  exact k w p l e R9 s m args below meth c H locs ls hw hf hR (rel_refs hr hH) hn hlo hL
