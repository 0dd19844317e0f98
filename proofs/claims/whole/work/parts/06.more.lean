/-! ===== rows: a row of rows, the larger and the smaller of two ints ===== -/
section MO
variable {M : MR} {d n0 n1 : Nat} (pc : Nat) {L : List (Nat × Value)} {st : List Value} {σ : PS} {Q : Option Value → PS → Prop}
def mxI (x y : Int32) : Int32 := if x < y then y else x
def mnI (x y : Int32) : Int32 := if y < x then y else x
theorem rw_mmax {idx : Nat} {x y : Int32} (hd : decode M.2.1 pc = .ok (.invokestatic idx, 3)) (h1 : Cond.methodLink M.1.cls idx Lib.Math.max.name ∈ WL) (h2 : Cond.static Lib.Math.max.name ∈ WL) (h3 : Cond.initialized "java/lang/Math" ∈ WL) (h4 : Cond.code Lib.Math.max.name Lib.Math.max.code 2 (some .int) ∈ WL) (hd1 : 1 ≤ d) (hs : (st.map fun v => v.category).sum ≤ 8) (k : RW M d n0 n1 (pc + 3) L (.int (mxI x y) :: st) σ Q) : RW M d n0 n1 pc L (.int y :: .int x :: st) σ Q := by
  intro w p l e R s m args below meth c H locs ls hw hf hR hH hn hlo hL
  have hts := hf.2.2.2.2.1
  have m1 := szs_mono hn.2.1
  have hs9 : ((st.map (vmp w)).map fun v => v.category).sum ≤ 8 := by rw [vmp_sum]; exact hs
  exact va_mmax hf.1 hf.2.1 (by rw [hf.2.2.1]; exact hL.1.symm) hf.2.2.2.1 (hts _ h1) (hts _ h2) (hts _ h3) (hts _ h4) (by have := hR.1; omega) (by have := hR.2.1; omega) (by have := hR.2.2.1; omega) (by have := hR.2.2.2; omega) hd (k w p l e R s m args below meth c H locs ls hw hf hR hH hn hlo hL)
theorem rw_mmin {idx : Nat} {x y : Int32} (hd : decode M.2.1 pc = .ok (.invokestatic idx, 3)) (h1 : Cond.methodLink M.1.cls idx Lib.Math.min.name ∈ WL) (h2 : Cond.static Lib.Math.min.name ∈ WL) (h3 : Cond.initialized "java/lang/Math" ∈ WL) (h4 : Cond.code Lib.Math.min.name Lib.Math.min.code 2 (some .int) ∈ WL) (hd1 : 1 ≤ d) (hs : (st.map fun v => v.category).sum ≤ 8) (k : RW M d n0 n1 (pc + 3) L (.int (mnI x y) :: st) σ Q) : RW M d n0 n1 pc L (.int y :: .int x :: st) σ Q := by
  intro w p l e R s m args below meth c H locs ls hw hf hR hH hn hlo hL
  have hts := hf.2.2.2.2.1
  have m1 := szs_mono hn.2.1
  have hs9 : ((st.map (vmp w)).map fun v => v.category).sum ≤ 8 := by rw [vmp_sum]; exact hs
  exact va_mmin hf.1 hf.2.1 (by rw [hf.2.2.1]; exact hL.1.symm) hf.2.2.2.1 (hts _ h1) (hts _ h2) (hts _ h3) (hts _ h4) (by have := hR.1; omega) (by have := hR.2.1; omega) (by have := hR.2.2.1; omega) (by have := hR.2.2.2; omega) hd (k w p l e R s m args below meth c H locs ls hw hf hR hH hn hlo hL)
/-- roles n .. n + N are new: a row of rows, and its N rows -/
def zMs (μ : Mem) (n N : Nat) : Mem := (fun b k => if n ≤ b ∧ b ≤ n + N then 0 else μ.1 b k, fun b k => if n ≤ b ∧ b ≤ n + N then 0 else μ.2 b k)
def zRs (r : Nat → Nat → Option Nat) (n N : Nat) : Nat → Nat → Option Nat := fun b k => if b = n then (if k < N then some (n + 1 + k) else none) else if n ≤ b ∧ b ≤ n + N then none else r b k
theorem szs_row {n N K : Nat} (h : lay n = .inr (5, N)) (hr : ∀ i, i < N → lay (n + 1 + i) = .inr (0, K)) : ∀ i, i ≤ N → szs (n + 1 + i) = szs n + N + i * K
  | 0, _ => by
    show szs n + szK (lay n) = _
    rw [h]
    show szs n + N = _
    omega
  | i + 1, hi => by
    show szs (n + 1 + i) + szK (lay (n + 1 + i)) = _
    rw [hr i (by omega), szs_row h hr i (by omega)]
    show _ + K = _
    rw [Nat.succ_mul]
    omega
theorem outer_at (c : ClassId) (N h0 : Nat) : ∀ i : Nat, Jvm.Free.Multi.outerC c N h0 i = arrV c N (fun j => va_rf (if j < i then some (h0 + 1 + j) else none))
  | 0 => by
    show ({ cls := c, slots := Array.replicate N .null, vm := .none } : Cell) = _
    rw [arrV_new]
    refine congrArg (arrV c N) (funext fun j => ?_)
    simp [va_rf]
  | i + 1 => by
    show (Jvm.Free.Multi.outerC c N h0 i).setSlot i (.ref (h0 + 1 + i)) = _
    rw [outer_at c N h0 i, arrV_store]
    refine congrArg (arrV c N) (funext fun j => ?_)
    by_cases e : j = i
    · subst e
      simp [updV, va_rf]
    · by_cases h : j < i
      · simp [updV, e, h, Nat.lt_succ_of_lt h]
      · simp [updV, e, h, show ¬ j < i + 1 by omega]
theorem rw_mna {idx N K : Nat} {x y : Int32} (hd : decode M.2.1 pc = .ok (.multianewarray idx 2, 4)) (hl : lay σ.2.2 = .inr (5, N)) (hr : ∀ i, i < N → lay (σ.2.2 + 1 + i) = .inr (0, K)) (hx : ¬ x < 0) (hxN : x.toNatClampNeg = N) (hy : ¬ y < 0) (hyK : y.toNatClampNeg = K) (hN : N ≤ 60000) (hK9 : K ≤ 60000) (hk : Cond.classLink M.1.cls idx "[[I" ∈ WL) (ha : Cond.arrayClass (aty 0) ∈ WL) (hlt : σ.2.2 + N < n1)
    (k : RW M d n0 n1 (pc + 4) L (.ref σ.2.2 :: st) (zMs σ.1 σ.2.2 N, zRs σ.2.1 σ.2.2 N, σ.2.2 + 1 + N) Q) : RW M d n0 n1 pc L (.int y :: .int x :: st) σ Q := by
  intro w p l e R s m args below meth c H locs ls hw hf hR hH hn hlo hL
  have hts := hf.2.2.2.2.1
  have hK := hf.2.2.2.2.2.2.2.2.1
  have hsz := szs_row hl hr N (Nat.le_refl N)
  have hm1 := szs_mono (show σ.2.2 + 1 + N ≤ n1 by omega)
  have hm0 := szs_mono hn.1
  have hcl := hts _ hk
  subst hxN
  subst hyK
  intro T hT Xs
  obtain ⟨vm₁, cA, comp, -, fA, fC, hO, -, X', step⟩ := Xs.multianewarray2F hf.1 hf.2.2.2.1 (ty := .int) hcl hf.2.2.2.2.2.2.2.2.2.2.1.2 (hts _ ha) (g := F0 m pc ls ((Value.int y :: Value.int x :: st).map (vmp w))) rfl (by rw [hf.2.1]; exact hd) (n := x) (k := y) (rest := st.map (vmp w)) rfl hx hy (by omega) (by show y.toNatClampNeg * 4 ≤ _; omega) (by omega) rfl rfl (by have := hR.2.2.1; omega) (by have := hR.2.2.2; omega)
  have hc0 : w.2.2.2.1 0 = comp := Option.some.inj ((show s.vm.findClass ("[" ++ FieldType.int.toString) = some (w.2.2.2.1 0) from (hK.2 0 _ rfl).2).symm.trans fC)
  have hc5 : w.2.2.2.1 5 = cA := Option.some.inj ((show s.vm.findClass ("[" ++ (FieldType.array .int).toString) = some (w.2.2.2.1 5) from (hK.2 5 _ rfl).2).symm.trans fA)
  generalize hF : Jvm.Free.Multi.fill (T.setVm vm₁) cA comp x.toNatClampNeg y.toNatClampNeg (defaultValue .int) x.toNatClampNeg = F at X' step
  have hTh : (T.setVm vm₁).heap = H := hT
  obtain ⟨f1, f2, -, -⟩ := Jvm.Free.Multi.fill_facts (T.setVm vm₁) cA comp x.toNatClampNeg y.toNatClampNeg (defaultValue .int) x.toNatClampNeg
  rw [hF, hTh] at f1 f2
  have hold : ∀ z : Nat, z < H.size → F.heap[z]? = H[z]? := fun z hz => by
    have := Jvm.Free.Multi.fill_old (T.setVm vm₁) cA comp x.toNatClampNeg y.toNatClampNeg (defaultValue .int) (a := z) (by rw [hTh]; exact hz) x.toNatClampNeg
    rw [hF, hTh] at this
    exact this
  have hrow : ∀ j : Nat, j < x.toNatClampNeg → F.heap[H.size + 1 + j]? = some (Jvm.Free.Multi.innerC comp y.toNatClampNeg (defaultValue .int)) := fun j hj => by
    have := Jvm.Free.Multi.fill_inner (T.setVm vm₁) cA comp x.toNatClampNeg y.toNatClampNeg (defaultValue .int) x.toNatClampNeg j hj
    rw [hF, hTh] at this
    exact this
  obtain ⟨r1, r2, r3, r4, r5⟩ := hH
  have hadr : ∀ j : Nat, j ≤ x.toNatClampNeg → w.2.1 (σ.2.2 + j) = H.size + j := fun j hj => r5 j (by omega)
  have hrel : Rel w (zMs σ.1 σ.2.2 x.toNatClampNeg, zRs σ.2.1 σ.2.2 x.toNatClampNeg, σ.2.2 + 1 + x.toNatClampNeg) F.heap := by
    refine ⟨by show σ.2.2 + 1 + _ ≤ NF; omega, fun q hq => ?_, fun a ha => by rw [hold a (by omega)]; exact r3 a ha, by rw [f1]; omega, fun j hj => ?_⟩
    · have hq : q < σ.2.2 + 1 + x.toNatClampNeg := hq
      by_cases h1 : q < σ.2.2
      · have h2 := r2 q h1
        have hlt9 : w.2.1 q < H.size := by
          unfold cellR at h2
          split at h2
          · obtain ⟨cell, z, -⟩ := h2
            exact (Array.getElem?_eq_some_iff.mp z).1
          · exact (Array.getElem?_eq_some_iff.mp h2).1
        refine cellR_congr h2 (hold _ hlt9) (fun j => ?_) (fun j => ?_) (fun j => ?_)
        · show (if σ.2.2 ≤ q ∧ q ≤ _ then _ else _) = _
          rw [if_neg (by omega)]
        · show (if σ.2.2 ≤ q ∧ q ≤ _ then _ else _) = _
          rw [if_neg (by omega)]
        · show (if q = σ.2.2 then _ else if σ.2.2 ≤ q ∧ q ≤ _ then _ else _) = _
          rw [if_neg (by omega), if_neg (by omega)]
      · by_cases h3 : q = σ.2.2
        · subst h3
          refine cellR_arr hl ?_
          have h0 := hadr 0 (Nat.zero_le _)
          rw [Nat.add_zero, Nat.add_zero] at h0
          rw [h0, f2, hc5, outer_at]
          congr 2
          funext j
          rw [av_r (by omega)]
          show _ = va_rf ((if σ.2.2 = σ.2.2 then _ else _ : Option Nat).map w.2.1)
          rw [if_pos rfl]
          by_cases hj : j < x.toNatClampNeg
          · rw [if_pos hj, if_pos hj]
            show Value.ref _ = Value.ref (w.2.1 (σ.2.2 + 1 + j))
            rw [show σ.2.2 + 1 + j = σ.2.2 + (1 + j) by omega, hadr (1 + j) (by omega), show H.size + (1 + j) = H.size + 1 + j by omega]
          · rw [if_neg hj, if_neg hj]
            rfl
        · obtain ⟨i, rfl⟩ : ∃ i, q = σ.2.2 + 1 + i := ⟨q - (σ.2.2 + 1), by omega⟩
          refine cellR_arr (hr i (by omega)) ?_
          rw [show σ.2.2 + 1 + i = σ.2.2 + (1 + i) by omega, hadr (1 + i) (by omega), show H.size + (1 + i) = H.size + 1 + i by omega, hrow i (by omega), hc0]
          show some ({ cls := comp, slots := Array.replicate _ _, vm := .none } : Cell) = _
          rw [arrV_new]
          congr 2
          funext j
          rw [av_i (by omega) (by omega)]
          show Value.int 0 = Value.int (if σ.2.2 ≤ σ.2.2 + (1 + i) ∧ σ.2.2 + (1 + i) ≤ σ.2.2 + x.toNatClampNeg then 0 else _)
          rw [if_pos (by omega)]
    · have hj : σ.2.2 + 1 + x.toNatClampNeg + j < NF := hj
      show w.2.1 (σ.2.2 + 1 + x.toNatClampNeg + j) = _
      rw [show σ.2.2 + 1 + x.toNatClampNeg + j = σ.2.2 + (1 + x.toNatClampNeg + j) by omega, r5 (1 + x.toNatClampNeg + j) (by omega), f1]
      omega
  have hk9 := k w p l e R s m args below meth c F.heap locs ls hw hf hR hrel ⟨by show n0 ≤ σ.2.2 + 1 + _; omega, by show σ.2.2 + 1 + _ ≤ n1; omega, hn.2.2⟩ hlo hL
  have c1 : (σ.2.2 + 1 + x.toNatClampNeg) - n0 = σ.2.2 - n0 + 1 + x.toNatClampNeg := by omega
  have c2 : szs (σ.2.2 + 1 + x.toNatClampNeg) - szs n0 = szs σ.2.2 - szs n0 + x.toNatClampNeg + x.toNatClampNeg * y.toNatClampNeg := by omega
  have e0 := hadr 0 (Nat.zero_le _)
  rw [Nat.add_zero, Nat.add_zero] at e0
  have e9 : vmp w (.ref σ.2.2) = .ref H.size := by show Value.ref _ = _; rw [e0]
  dsimp only at hk9
  rw [c1, c2, List.map_cons, e9] at hk9
  obtain ⟨t, a1, b1⟩ := hk9 F rfl X'
  refine ⟨t, step t ?_, b1⟩
  rw [show T.heap.size = H.size by rw [hT]]
  exact a1
end MO
