/-! ===== the law's judgement: as RW, with what is fixed of the world (P: the script) ===== -/
def RX (P : Wd → State → Prop) (M : MR) (d n0 n1 pc : Nat) (L : List (Nat × Value)) (st : List Value) (σ : PS) (Q : Option Value → PS → Prop) : Prop :=
  ∀ (w : Wd) (p : Program) (l : Launch) (e : Env) (R : Room) (s : State) (m : MethodId) (args : Array Value) (below : List Frame) (meth : Method) (c : Code) (H : Heap) (locs : List Loc) (ls : Array Slot),
    WOK w → FrOK M w p s m args meth c → RmOK R d n0 n1 → Rel w σ H → (n0 ≤ σ.2.2 ∧ σ.2.2 ≤ n1 ∧ n1 ≤ NF) → (∀ q ∈ locs, w.1 ≤ q.base) → LcOK w M.2.2.1 L ls → P w s →
    W p l e R s m args below meth c H locs (σ.2.2 - n0) (szs σ.2.2 - szs n0) (MQ below (QcO w n1 Q) args s (n1 - n0) (szs n1 - szs n0) (fun a => w.1 ≤ a)) (F0 m pc ls (st.map (vmp w)))
section RXS
variable {P : Wd → State → Prop}
theorem rx_iconst {M : MR} {d n0 n1 : Nat} (pc : Nat) {L : List (Nat × Value)} {st : List Value} {σ : PS} {Q : Option Value → PS → Prop} {n : Int} {v : Int32} (hd : decode M.2.1 pc = .ok (.iconst n, 1)) (hv : Int32.ofInt n = v) (k : RX P M d n0 n1 (pc + 1) L (.int v :: st) σ Q) : RX P M d n0 n1 pc L st σ Q := by
  intro w p l e R s m args below meth c H locs ls hw hf hR hH hn hlo hL hpx
  exact lv_iconst hf.1 hf.2.1 hd hv (k w p l e R s m args below meth c H locs ls hw hf hR hH hn hlo hL hpx)
theorem rx_bipush {M : MR} {d n0 n1 : Nat} (pc : Nat) {L : List (Nat × Value)} {st : List Value} {σ : PS} {Q : Option Value → PS → Prop} {n : Int} {v : Int32} (hd : decode M.2.1 pc = .ok (.bipush n, 2)) (hv : (Int8.ofInt n).toInt32 = v) (k : RX P M d n0 n1 (pc + 2) L (.int v :: st) σ Q) : RX P M d n0 n1 pc L st σ Q := by
  intro w p l e R s m args below meth c H locs ls hw hf hR hH hn hlo hL hpx
  exact lv_bipush hf.1 hf.2.1 hd hv (k w p l e R s m args below meth c H locs ls hw hf hR hH hn hlo hL hpx)
theorem rx_sipush {M : MR} {d n0 n1 : Nat} (pc : Nat) {L : List (Nat × Value)} {st : List Value} {σ : PS} {Q : Option Value → PS → Prop} {n : Int} {v : Int32} (hd : decode M.2.1 pc = .ok (.sipush n, 3)) (hv : (Int16.ofInt n).toInt32 = v) (k : RX P M d n0 n1 (pc + 3) L (.int v :: st) σ Q) : RX P M d n0 n1 pc L st σ Q := by
  intro w p l e R s m args below meth c H locs ls hw hf hR hH hn hlo hL hpx
  exact lv_sipush hf.1 hf.2.1 hd hv (k w p l e R s m args below meth c H locs ls hw hf hR hH hn hlo hL hpx)
theorem rx_iload_n {M : MR} {d n0 n1 : Nat} (pc : Nat) {L : List (Nat × Value)} {st : List Value} {σ : PS} {Q : Option Value → PS → Prop} {k0 : Fin 4} {x : Int32} (hd : decode M.2.1 pc = .ok (.iload_n k0, 1)) (i : Nat) (hg : L[i]? = some ((k0 : Nat), .int x)) (k : RX P M d n0 n1 (pc + 1) L (.int x :: st) σ Q) : RX P M d n0 n1 pc L st σ Q := by
  intro w p l e R s m args below meth c H locs ls hw hf hR hH hn hlo hL hpx
  exact lv_iload_n hf.1 hf.2.1 hd rfl (lc_get hL i hg) (k w p l e R s m args below meth c H locs ls hw hf hR hH hn hlo hL hpx)
theorem rx_istore_n {M : MR} {d n0 n1 : Nat} (pc : Nat) {L : List (Nat × Value)} {st : List Value} {σ : PS} {Q : Option Value → PS → Prop} {k0 : Fin 4} {x : Int32} (L2 : List (Nat × Value)) (hd : decode M.2.1 pc = .ok (.istore_n k0, 1)) (hlt : (k0 : Nat) < M.2.2.1) (hs : sto1 (k0 : Nat) (.int x) L = L2) (k : RX P M d n0 n1 (pc + 1) L2 st σ Q) : RX P M d n0 n1 pc L (.int x :: st) σ Q := by
  subst hs
  intro w p l e R s m args below meth c H locs ls hw hf hR hH hn hlo hL hpx
  exact lv_istore_n hf.1 hf.2.1 hd rfl hL hlt rfl (fun ls9 h9 => k w p l e R s m args below meth c H locs ls9 hw hf hR hH hn hlo (lc_sto1 (v := .int x) h9) hpx)
theorem rx_aload_n {M : MR} {d n0 n1 : Nat} (pc : Nat) {L : List (Nat × Value)} {st : List Value} {σ : PS} {Q : Option Value → PS → Prop} {k0 : Fin 4} {x : Nat} (hd : decode M.2.1 pc = .ok (.aload_n k0, 1)) (i : Nat) (hg : L[i]? = some ((k0 : Nat), .ref x)) (k : RX P M d n0 n1 (pc + 1) L (.ref x :: st) σ Q) : RX P M d n0 n1 pc L st σ Q := by
  intro w p l e R s m args below meth c H locs ls hw hf hR hH hn hlo hL hpx
  exact lv_aload_n hf.1 hf.2.1 hd rfl (lc_get hL i hg) (k w p l e R s m args below meth c H locs ls hw hf hR hH hn hlo hL hpx)
theorem rx_astore_n {M : MR} {d n0 n1 : Nat} (pc : Nat) {L : List (Nat × Value)} {st : List Value} {σ : PS} {Q : Option Value → PS → Prop} {k0 : Fin 4} {x : Nat} (L2 : List (Nat × Value)) (hd : decode M.2.1 pc = .ok (.astore_n k0, 1)) (hlt : (k0 : Nat) < M.2.2.1) (hs : sto1 (k0 : Nat) (.ref x) L = L2) (k : RX P M d n0 n1 (pc + 1) L2 st σ Q) : RX P M d n0 n1 pc L (.ref x :: st) σ Q := by
  subst hs
  intro w p l e R s m args below meth c H locs ls hw hf hR hH hn hlo hL hpx
  exact lv_astore_n hf.1 hf.2.1 hd rfl hL hlt rfl (fun ls9 h9 => k w p l e R s m args below meth c H locs ls9 hw hf hR hH hn hlo (lc_sto1 (v := .ref x) h9) hpx)
theorem rx_iinc {M : MR} {d n0 n1 : Nat} (pc : Nat) {L : List (Nat × Value)} {st : List Value} {σ : PS} {Q : Option Value → PS → Prop} {j : Nat} {n : Int} {x v : Int32} (L2 : List (Nat × Value)) (hd : decode M.2.1 pc = .ok (.iinc j n, 3)) (i : Nat) (hg : L[i]? = some (j, .int x)) (hv : x + Int32.ofInt n = v) (hlt : j < M.2.2.1) (hs : sto1 j (.int v) L = L2) (k : RX P M d n0 n1 (pc + 3) L2 st σ Q) : RX P M d n0 n1 pc L st σ Q := by
  subst hs
  intro w p l e R s m args below meth c H locs ls hw hf hR hH hn hlo hL hpx
  exact lv_iinc hf.1 hf.2.1 hd hL (k := i) (by rw [List.getElem?_map, hg]; rfl) hv hlt rfl (fun ls9 h9 => k w p l e R s m args below meth c H locs ls9 hw hf hR hH hn hlo (lc_sto1 (v := .int v) h9) hpx)
theorem rx_iadd {M : MR} {d n0 n1 : Nat} (pc : Nat) {L : List (Nat × Value)} {st : List Value} {σ : PS} {Q : Option Value → PS → Prop} {x y : Int32} (hd : decode M.2.1 pc = .ok (.iadd, 1))  (k : RX P M d n0 n1 (pc + 1) L (.int (x + y) :: st) σ Q) : RX P M d n0 n1 pc L (.int y :: .int x :: st) σ Q := by
  intro w p l e R s m args below meth c H locs ls hw hf hR hH hn hlo hL hpx
  exact lv_iadd hf.1 hf.2.1 hd (k w p l e R s m args below meth c H locs ls hw hf hR hH hn hlo hL hpx)
theorem rx_isub {M : MR} {d n0 n1 : Nat} (pc : Nat) {L : List (Nat × Value)} {st : List Value} {σ : PS} {Q : Option Value → PS → Prop} {x y : Int32} (hd : decode M.2.1 pc = .ok (.isub, 1))  (k : RX P M d n0 n1 (pc + 1) L (.int (x - y) :: st) σ Q) : RX P M d n0 n1 pc L (.int y :: .int x :: st) σ Q := by
  intro w p l e R s m args below meth c H locs ls hw hf hR hH hn hlo hL hpx
  exact lv_isub hf.1 hf.2.1 hd (k w p l e R s m args below meth c H locs ls hw hf hR hH hn hlo hL hpx)
theorem rx_iand {M : MR} {d n0 n1 : Nat} (pc : Nat) {L : List (Nat × Value)} {st : List Value} {σ : PS} {Q : Option Value → PS → Prop} {x y : Int32} (hd : decode M.2.1 pc = .ok (.iand, 1))  (k : RX P M d n0 n1 (pc + 1) L (.int (x &&& y) :: st) σ Q) : RX P M d n0 n1 pc L (.int y :: .int x :: st) σ Q := by
  intro w p l e R s m args below meth c H locs ls hw hf hR hH hn hlo hL hpx
  exact lv_iand hf.1 hf.2.1 hd (k w p l e R s m args below meth c H locs ls hw hf hR hH hn hlo hL hpx)
theorem rx_dup {M : MR} {d n0 n1 : Nat} (pc : Nat) {L : List (Nat × Value)} {st : List Value} {σ : PS} {Q : Option Value → PS → Prop} {v : Value} (hd : decode M.2.1 pc = .ok (.dup, 1)) (hc : v.category = 1) (k : RX P M d n0 n1 (pc + 1) L (v :: v :: st) σ Q) : RX P M d n0 n1 pc L (v :: st) σ Q := by
  intro w p l e R s m args below meth c H locs ls hw hf hR hH hn hlo hL hpx
  exact lv_dup hf.1 hf.2.1 hd (by rw [vmp_cat]; exact hc) (k w p l e R s m args below meth c H locs ls hw hf hR hH hn hlo hL hpx)
theorem rx_pop {M : MR} {d n0 n1 : Nat} (pc : Nat) {L : List (Nat × Value)} {st : List Value} {σ : PS} {Q : Option Value → PS → Prop} {v : Value} (hd : decode M.2.1 pc = .ok (.pop, 1)) (hc : v.category = 1) (k : RX P M d n0 n1 (pc + 1) L st σ Q) : RX P M d n0 n1 pc L (v :: st) σ Q := by
  intro w p l e R s m args below meth c H locs ls hw hf hR hH hn hlo hL hpx
  exact lv_pop hf.1 hf.2.1 hd (by rw [vmp_cat]; exact hc) (k w p l e R s m args below meth c H locs ls hw hf hR hH hn hlo hL hpx)
theorem rx_if_eq {M : MR} {d n0 n1 : Nat} (pc : Nat) {L : List (Nat × Value)} {st : List Value} {σ : PS} {Q : Option Value → PS → Prop} {x : Int32} {off : Int} (tgt : Nat) (hd : decode M.2.1 pc = .ok (.ifCond .eq off, 3)) (ht : (pc : Int) + off = (tgt : Int)) (kt : x = 0 → RX P M d n0 n1 tgt L st σ Q) (kf : ¬ x = 0 → RX P M d n0 n1 (pc + 3) L st σ Q) : RX P M d n0 n1 pc L (.int x :: st) σ Q := by
  intro w p l e R s m args below meth c H locs ls hw hf hR hH hn hlo hL hpx
  exact lv_if_eq hf.1 hf.2.1 hd ht (fun h9 => kt h9 w p l e R s m args below meth c H locs ls hw hf hR hH hn hlo hL hpx) (fun h9 => kf h9 w p l e R s m args below meth c H locs ls hw hf hR hH hn hlo hL hpx)
theorem rx_if_ne {M : MR} {d n0 n1 : Nat} (pc : Nat) {L : List (Nat × Value)} {st : List Value} {σ : PS} {Q : Option Value → PS → Prop} {x : Int32} {off : Int} (tgt : Nat) (hd : decode M.2.1 pc = .ok (.ifCond .ne off, 3)) (ht : (pc : Int) + off = (tgt : Int)) (kt : ¬ x = 0 → RX P M d n0 n1 tgt L st σ Q) (kf : x = 0 → RX P M d n0 n1 (pc + 3) L st σ Q) : RX P M d n0 n1 pc L (.int x :: st) σ Q := by
  intro w p l e R s m args below meth c H locs ls hw hf hR hH hn hlo hL hpx
  exact lv_if_ne hf.1 hf.2.1 hd ht (fun h9 => kt h9 w p l e R s m args below meth c H locs ls hw hf hR hH hn hlo hL hpx) (fun h9 => kf h9 w p l e R s m args below meth c H locs ls hw hf hR hH hn hlo hL hpx)
theorem rx_icmp_eq {M : MR} {d n0 n1 : Nat} (pc : Nat) {L : List (Nat × Value)} {st : List Value} {σ : PS} {Q : Option Value → PS → Prop} {x y : Int32} {off : Int} (tgt : Nat) (hd : decode M.2.1 pc = .ok (.if_icmp .eq off, 3)) (ht : (pc : Int) + off = (tgt : Int)) (kt : x = y → RX P M d n0 n1 tgt L st σ Q) (kf : ¬ x = y → RX P M d n0 n1 (pc + 3) L st σ Q) : RX P M d n0 n1 pc L (.int y :: .int x :: st) σ Q := by
  intro w p l e R s m args below meth c H locs ls hw hf hR hH hn hlo hL hpx
  exact lv_icmp_eq hf.1 hf.2.1 hd ht (fun h9 => kt h9 w p l e R s m args below meth c H locs ls hw hf hR hH hn hlo hL hpx) (fun h9 => kf h9 w p l e R s m args below meth c H locs ls hw hf hR hH hn hlo hL hpx)
theorem rx_icmp_ne {M : MR} {d n0 n1 : Nat} (pc : Nat) {L : List (Nat × Value)} {st : List Value} {σ : PS} {Q : Option Value → PS → Prop} {x y : Int32} {off : Int} (tgt : Nat) (hd : decode M.2.1 pc = .ok (.if_icmp .ne off, 3)) (ht : (pc : Int) + off = (tgt : Int)) (kt : ¬ x = y → RX P M d n0 n1 tgt L st σ Q) (kf : x = y → RX P M d n0 n1 (pc + 3) L st σ Q) : RX P M d n0 n1 pc L (.int y :: .int x :: st) σ Q := by
  intro w p l e R s m args below meth c H locs ls hw hf hR hH hn hlo hL hpx
  exact lv_icmp_ne hf.1 hf.2.1 hd ht (fun h9 => kt h9 w p l e R s m args below meth c H locs ls hw hf hR hH hn hlo hL hpx) (fun h9 => kf h9 w p l e R s m args below meth c H locs ls hw hf hR hH hn hlo hL hpx)
theorem rx_icmp_lt {M : MR} {d n0 n1 : Nat} (pc : Nat) {L : List (Nat × Value)} {st : List Value} {σ : PS} {Q : Option Value → PS → Prop} {x y : Int32} {off : Int} (tgt : Nat) (hd : decode M.2.1 pc = .ok (.if_icmp .lt off, 3)) (ht : (pc : Int) + off = (tgt : Int)) (kt : x < y → RX P M d n0 n1 tgt L st σ Q) (kf : ¬ x < y → RX P M d n0 n1 (pc + 3) L st σ Q) : RX P M d n0 n1 pc L (.int y :: .int x :: st) σ Q := by
  intro w p l e R s m args below meth c H locs ls hw hf hR hH hn hlo hL hpx
  exact lv_icmp_lt hf.1 hf.2.1 hd ht (fun h9 => kt h9 w p l e R s m args below meth c H locs ls hw hf hR hH hn hlo hL hpx) (fun h9 => kf h9 w p l e R s m args below meth c H locs ls hw hf hR hH hn hlo hL hpx)
theorem rx_icmp_ge {M : MR} {d n0 n1 : Nat} (pc : Nat) {L : List (Nat × Value)} {st : List Value} {σ : PS} {Q : Option Value → PS → Prop} {x y : Int32} {off : Int} (tgt : Nat) (hd : decode M.2.1 pc = .ok (.if_icmp .ge off, 3)) (ht : (pc : Int) + off = (tgt : Int)) (kt : y ≤ x → RX P M d n0 n1 tgt L st σ Q) (kf : ¬ y ≤ x → RX P M d n0 n1 (pc + 3) L st σ Q) : RX P M d n0 n1 pc L (.int y :: .int x :: st) σ Q := by
  intro w p l e R s m args below meth c H locs ls hw hf hR hH hn hlo hL hpx
  exact lv_icmp_ge hf.1 hf.2.1 hd ht (fun h9 => kt h9 w p l e R s m args below meth c H locs ls hw hf hR hH hn hlo hL hpx) (fun h9 => kf h9 w p l e R s m args below meth c H locs ls hw hf hR hH hn hlo hL hpx)
theorem rx_icmp_gt {M : MR} {d n0 n1 : Nat} (pc : Nat) {L : List (Nat × Value)} {st : List Value} {σ : PS} {Q : Option Value → PS → Prop} {x y : Int32} {off : Int} (tgt : Nat) (hd : decode M.2.1 pc = .ok (.if_icmp .gt off, 3)) (ht : (pc : Int) + off = (tgt : Int)) (kt : y < x → RX P M d n0 n1 tgt L st σ Q) (kf : ¬ y < x → RX P M d n0 n1 (pc + 3) L st σ Q) : RX P M d n0 n1 pc L (.int y :: .int x :: st) σ Q := by
  intro w p l e R s m args below meth c H locs ls hw hf hR hH hn hlo hL hpx
  exact lv_icmp_gt hf.1 hf.2.1 hd ht (fun h9 => kt h9 w p l e R s m args below meth c H locs ls hw hf hR hH hn hlo hL hpx) (fun h9 => kf h9 w p l e R s m args below meth c H locs ls hw hf hR hH hn hlo hL hpx)
theorem rx_icmp_le {M : MR} {d n0 n1 : Nat} (pc : Nat) {L : List (Nat × Value)} {st : List Value} {σ : PS} {Q : Option Value → PS → Prop} {x y : Int32} {off : Int} (tgt : Nat) (hd : decode M.2.1 pc = .ok (.if_icmp .le off, 3)) (ht : (pc : Int) + off = (tgt : Int)) (kt : x ≤ y → RX P M d n0 n1 tgt L st σ Q) (kf : ¬ x ≤ y → RX P M d n0 n1 (pc + 3) L st σ Q) : RX P M d n0 n1 pc L (.int y :: .int x :: st) σ Q := by
  intro w p l e R s m args below meth c H locs ls hw hf hR hH hn hlo hL hpx
  exact lv_icmp_le hf.1 hf.2.1 hd ht (fun h9 => kt h9 w p l e R s m args below meth c H locs ls hw hf hR hH hn hlo hL hpx) (fun h9 => kf h9 w p l e R s m args below meth c H locs ls hw hf hR hH hn hlo hL hpx)
theorem rx_goto {M : MR} {d n0 n1 : Nat} (pc : Nat) {L : List (Nat × Value)} {st : List Value} {σ : PS} {Q : Option Value → PS → Prop} {off : Int} (tgt : Nat) (hd : decode M.2.1 pc = .ok (.goto off, 3)) (ht : (pc : Int) + off = (tgt : Int)) (k : RX P M d n0 n1 tgt L st σ Q) : RX P M d n0 n1 pc L st σ Q := by
  intro w p l e R s m args below meth c H locs ls hw hf hR hH hn hlo hL hpx
  exact lv_goto hf.1 hf.2.1 hd ht (k w p l e R s m args below meth c H locs ls hw hf hR hH hn hlo hL hpx)
theorem rx_tabOut {M : MR} {d n0 n1 : Nat} (pc : Nat) {L : List (Nat × Value)} {st : List Value} {σ : PS} {Q : Option Value → PS → Prop} {dflt lo hi : Int} {offs : Array Int} {len : Nat} {x : Int32} (tgt : Nat) (hd : decode M.2.1 pc = .ok (.tableswitch dflt lo hi offs, len)) (h : x.toInt < lo ∨ hi < x.toInt) (ht : (pc : Int) + dflt = (tgt : Int)) (k : RX P M d n0 n1 tgt L st σ Q) : RX P M d n0 n1 pc L (.int x :: st) σ Q := by
  intro w p l e R s m args below meth c H locs ls hw hf hR hH hn hlo hL hpx
  exact lv_tableOut hf.1 hf.2.1 hd h ht (k w p l e R s m args below meth c H locs ls hw hf hR hH hn hlo hL hpx)
theorem rx_tabIn {M : MR} {d n0 n1 : Nat} (pc : Nat) {L : List (Nat × Value)} {st : List Value} {σ : PS} {Q : Option Value → PS → Prop} {dflt lo hi : Int} {offs : Array Int} {len : Nat} {x : Int32} {off : Int} (tgt : Nat) (hd : decode M.2.1 pc = .ok (.tableswitch dflt lo hi offs, len)) (h1 : ¬ x.toInt < lo) (h2 : ¬ hi < x.toInt) (ho : offs[(x.toInt - lo).toNat]? = some off) (ht : (pc : Int) + off = (tgt : Int)) (k : RX P M d n0 n1 tgt L st σ Q) : RX P M d n0 n1 pc L (.int x :: st) σ Q := by
  intro w p l e R s m args below meth c H locs ls hw hf hR hH hn hlo hL hpx
  exact lv_tableIn hf.1 hf.2.1 hd h1 h2 ho ht (k w p l e R s m args below meth c H locs ls hw hf hR hH hn hlo hL hpx)
theorem rx_less {M : MR} {d n0 n1 : Nat} (pc : Nat) {L : List (Nat × Value)} {st : List Value} {σ : PS} {Q : Option Value → PS → Prop} {L2 : List (Nat × Value)} (hs : ∀ q ∈ L2, q ∈ L) (k : RX P M d n0 n1 pc L2 st σ Q) : RX P M d n0 n1 pc L st σ Q := by
  intro w p l e R s m args below meth c H locs ls hw hf hR hH hn hlo hL hpx
  refine k w p l e R s m args below meth c H locs ls hw hf hR hH hn hlo (lv_less hL fun q hq => ?_) hpx
  obtain ⟨x, hx, rfl⟩ := List.mem_map.mp hq
  exact List.mem_map.mpr ⟨x, hs x hx, rfl⟩
theorem rx_pick {M : MR} {d n0 n1 : Nat} (pc : Nat) {L : List (Nat × Value)} {st : List Value} {σ : PS} {Q : Option Value → PS → Prop} {L2 : List (Nat × Value)} (ks : List Nat) (hp : lv_pick L ks = L2) (k : RX P M d n0 n1 pc L2 st σ Q) : RX P M d n0 n1 pc L st σ Q := by
  refine rx_less pc (fun q hq => ?_) k
  rw [← hp] at hq
  obtain ⟨i, -, hi⟩ := List.mem_filterMap.mp hq
  exact List.mem_of_getElem? hi
theorem rx_zret {M : MR} {d n0 n1 : Nat} (pc : Nat) {L : List (Nat × Value)} {σ : PS} {Q : Option Value → PS → Prop} {v : Int32} {ty : FieldType} (hd : decode M.2.1 pc = .ok (.ireturn, 1)) (hr : M.2.2.2 = some ty) (hz : σ.2.2 = n1) (hb : narrow ty (.int v) = .int v) (hq : Q (some (.int v)) σ) : RX P M d n0 n1 pc L [.int v] σ Q := by
  intro w p l e R s m args below meth c H locs ls hw hf hR hH hn hlo hL hpx
  subst hz
  exact W.zret hf.1 hf.2.1 (by rw [hf.2.2.2.2.2.1, hr]) hb (fun t ht hW => ⟨some (.int v), σ, hq, rfl, rfl, by rw [ht]; exact hH⟩) hlo hd hf.2.2.2.2.2.2.1
theorem rx_new {M : MR} {d n0 n1 : Nat} (pc : Nat) {L : List (Nat × Value)} {st : List Value} {σ : PS} {Q : Option Value → PS → Prop} {idx : Nat} (ci : Nat) (hcl : ClsOK ci) (hp : ∀ j, j < nfl ci → fty ci j = .int ∨ fty ci j = .boolean ∨ isRt (fty ci j) = true) (hd : decode M.2.1 pc = .ok (.new idx, 3)) (hl : lay σ.2.2 = .inl ci) (hk : ∀ q : vw_C, clsL[ci]? = some q → Cond.classLink M.1.cls idx q.1 ∈ WL) (hlt : σ.2.2 < n1)
    (k : RX P M d n0 n1 (pc + 3) L (.ref σ.2.2 :: st) (zM σ.1 σ.2.2, zR σ.2.1 σ.2.2, σ.2.2 + 1) Q) : RX P M d n0 n1 pc L st σ Q := by
  intro w p l e R s m args below meth c H locs ls hw hf hR hH hn hlo hL hpx
  obtain ⟨q, hc, hin, hty, hnm, hins, hini⟩ := hcl
  have hts := hf.2.2.2.2.1
  have hKn := hf.2.2.2.2.2.2.2.2.1.1 ci _ hc
  have hsz : szs (σ.2.2 + 1) = szs σ.2.2 + q.2.2 := by
    show szs σ.2.2 + szK (lay σ.2.2) = _
    rw [hl]
    show _ + nfl ci = _
    rw [nfl_of hc]
  have hm1 := szs_mono (show σ.2.2 + 1 ≤ n1 by omega)
  have hm0 := szs_mono hn.1
  refine W.newcK hf.1 hf.2.1 hf.2.2.2.1 (hts _ (hk q hc)) (hts _ hins) (hts _ hini) rfl hd (by have := hR.2.2.1; omega) (by have := hR.2.2.2; omega) hKn.2.1 rfl fun H1 kC hkC e1 z1 o1 => ?_
  obtain ⟨hrel, e0⟩ := hH.push (σ' := (zM σ.1 σ.2.2, zR σ.2.1 σ.2.2, σ.2.2 + 1)) (by omega) z1 o1 rfl (fun e0 => cellR_obj hl (by
      rw [nfl_of hc, e0]
      refine (u_born (fty ci) hts hin hKn hkC e1 hty).to (fun j hj => fv_zero (hp j (by rw [nfl_of hc]; exact hj))))) (fun x j hx => ⟨by simp [zM, hx], by simp [zM, hx], by simp [zR, hx]⟩)
  have := k w p l e R s m args below meth c H1 locs ls hw hf hR hrel ⟨by show n0 ≤ σ.2.2 + 1; omega, by show σ.2.2 + 1 ≤ n1; omega, hn.2.2⟩ hlo hL hpx
  have c1 : (σ.2.2 + 1) - n0 = σ.2.2 - n0 + 1 := by omega
  have c2 : szs (σ.2.2 + 1) - szs n0 = szs σ.2.2 - szs n0 + q.2.2 := by omega
  have e9 : vmp w (.ref σ.2.2) = .ref H.size := by show Value.ref _ = _; rw [e0]
  dsimp only at this
  rw [c1, c2, List.map_cons, e9] at this
  exact this
theorem after_callX {M : MR} {d n0 n1 : Nat} (pc : Nat) {L : List (Nat × Value)} {Q : Option Value → PS → Prop} {w : Wd} {p : Program} {l : Launch} {e : Env} {R : Room} {s : State} {m : MethodId} {args : Array Value} {below : List Frame} {meth : Method} {c : Code} {H : Heap} {locs : List Loc} {ls : Array Slot} {rest : List Value} {st0 : List Value} {σ : PS} {Q2 : Option Value → PS → Prop} {n2 : Nat} {a : Array Value}
    (hw : WOK w) (hf : FrOK M w p s m args meth c) (hR : RmOK R d n0 n1) (hn : n0 ≤ σ.2.2 ∧ σ.2.2 ≤ n1 ∧ n1 ≤ NF) (h12 : σ.2.2 ≤ n2) (h21 : n2 ≤ n1) (hlo : ∀ q ∈ locs, w.1 ≤ q.base) (hL : LcOK w M.2.2.1 L ls) (hpx : P w s)
    (run : va_Run p l e R s m args below meth c H locs (σ.2.2 - n0) (szs σ.2.2 - szs n0) (n2 - σ.2.2) (szs n2 - szs σ.2.2) (F0 m pc ls st0) (rest.map (vmp w)) (QcO w n2 Q2 a) (fun a => w.1 ≤ a))
    (k : ∀ r σ2, Q2 r σ2 → σ2.2.2 = n2 → RX P M d n0 n1 (pc + 3) L (r.toList ++ rest) σ2 Q) : W p l e R s m args below meth c H locs (σ.2.2 - n0) (szs σ.2.2 - szs n0) (MQ below (QcO w n1 Q) args s (n1 - n0) (szs n1 - szs n0) (fun a => w.1 ≤ a)) (F0 m pc ls st0) := by
  intro T hT X
  obtain ⟨v, s0, t, T', L', h0, X', hL', e1, e2, ⟨r, σ2, hq, hz, hv, hrel⟩, st⟩ := run T hT X
  cases hv
  have c1 : σ.2.2 - n0 + (n2 - σ.2.2) = σ2.2.2 - n0 := by omega
  have m1 := szs_mono hn.1
  have m2 := szs_mono h12
  have c2 : szs σ.2.2 - szs n0 + (szs n2 - szs σ.2.2) = szs σ2.2.2 - szs n0 := by rw [hz]; omega
  rw [c1, c2] at X'
  obtain ⟨t2, a1, b1⟩ := k r σ2 hq hz w p l e R s m args below meth c T'.heap (locs ++ L') ls hw hf hR (by rw [e1]; exact hrel) ⟨by omega, by omega, hn.2.2⟩ (fun q h => by
    rcases List.mem_append.mp h with h | h
    · exact hlo q h
    · exact hL' q h) hL hpx T' rfl X'
  refine ⟨t2, st t2 ?_, b1⟩
  rw [List.map_append] at a1
  cases r with
  | none => exact a1
  | some r => exact a1
theorem rx_callV {M : MR} {d n0 n1 : Nat} (pc : Nat) {L : List (Nat × Value)} {st : List Value} {σ : PS} {Q : Option Value → PS → Prop} {N : MR} {idx d' n2 a : Nat} (ci : Nat) (As : List Value) {rest : List Value} {Q2 : Option Value → PS → Prop} (hd : decode M.2.1 pc = .ok (.invokevirtual idx, 3)) (hN : CaOK N) (hlk : Cond.methodLink M.1.cls idx N.1 ∈ WL) (hins : Cond.instanceMethod N.1 ∈ WL) (hsel : Cond.selects N.1.cls N.1 N.1 ∈ WL) (hst : st = As.reverse ++ .ref a :: rest) (hl : lay a = .inl ci) (hci : ∃ q : vw_C, clsL[ci]? = some q ∧ q.1 = N.1.cls) (ha : a < σ.2.2) (hna : (parseMethodDescriptor N.1.desc).map (fun q => q.parameters.length) = some As.length) (hsl : (lg_sl (.ref a :: As)).length ≤ N.2.2.1) (hr8 : (rest.map fun v => v.category).sum ≤ 8) (hdd : d' < d) (h12 : σ.2.2 ≤ n2) (h21 : n2 ≤ n1)
    (hc : Ct N d' σ.2.2 n2 (.ref a :: As) σ Q2) (k : ∀ r σ2, Q2 r σ2 → σ2.2.2 = n2 → RX P M d n0 n1 (pc + 3) L (r.toList ++ rest) σ2 Q) : RX P M d n0 n1 pc L st σ Q := by
  subst hst
  intro w p l e R s m args below meth c H locs ls hw hf hR hH hn hlo hL hpx
  have hts := hf.2.2.2.2.1
  have m1 := szs_mono h12
  have m2 := szs_mono h21
  have m3 := szs_mono hn.1
  obtain ⟨q, hq1, hq2⟩ := hci
  obtain ⟨cell, g1, g2, g3, -⟩ := hH.obj ha hl
  have hM := hc.met (w := w) hN.2.2.1 hsl hw rfl h12 (by omega) l
  have e0 : (As.reverse ++ Value.ref a :: rest).map (vmp w) = (As.map (vmp w)).reverse ++ .ref (w.2.1 a) :: rest.map (vmp w) := by rw [List.map_append, List.map_reverse]; rfl
  rw [e0]
  refine after_callX pc hw hf hR hn h12 h21 hlo hL hpx (va_runV (As := As.map (vmp w)) (rest := rest.map (vmp w)) (Ts := WL) ⟨hf.1, hf.2.1, hf.2.2.1, hf.2.2.2.1, hts⟩ hM ⟨callB_wl hf hR hN hlk hdd hna, hts _ hins, hts _ hsel⟩ ⟨PcO_blind w _ σ, ⟨cell, g1, by rw [g3]; rfl, ?_⟩, fun U hU hW => ⟨rfl, by rw [hU]; exact hH, hf.2.2.2.2.2.2.2.2.warm hW⟩⟩ rfl (by rw [List.length_map]) hL.1 rfl ?_ hd ⟨by have := hR.2.2.1; omega, by have := hR.2.2.2; omega⟩) k
  · rw [g2, ← hq2]
    exact (hf.2.2.2.2.2.2.2.2.1.1 ci q hq1).2.1
  · show 2 * 0 + ((rest.map (vmp w)).map fun v => v.category).sum ≤ 8
    rw [vmp_sum]
    omega
theorem rx_callI {M : MR} {d n0 n1 : Nat} (pc : Nat) {L : List (Nat × Value)} {st : List Value} {σ : PS} {Q : Option Value → PS → Prop} {N : MR} {idx d' n2 a : Nat} (As : List Value) {rest : List Value} {Q2 : Option Value → PS → Prop} (hd : decode M.2.1 pc = .ok (.invokespecial idx, 3)) (hN : CaOK N) (hret : N.2.2.2 = none) (hnm : N.1.name = "<init>") (hlk : Cond.methodLink M.1.cls idx N.1 ∈ WL) (hins : Cond.instanceMethod N.1 ∈ WL) (hst : st = As.reverse ++ .ref a :: rest) (hna : (parseMethodDescriptor N.1.desc).map (fun q => q.parameters.length) = some As.length) (hsl : (lg_sl (.ref a :: As)).length ≤ N.2.2.1) (hr8 : (rest.map fun v => v.category).sum ≤ 8) (hdd : d' < d) (h12 : σ.2.2 ≤ n2) (h21 : n2 ≤ n1)
    (hc : Ct N d' σ.2.2 n2 (.ref a :: As) σ Q2) (k : ∀ r σ2, Q2 r σ2 → σ2.2.2 = n2 → RX P M d n0 n1 (pc + 3) L (r.toList ++ rest) σ2 Q) : RX P M d n0 n1 pc L st σ Q := by
  subst hst
  intro w p l e R s m args below meth c H locs ls hw hf hR hH hn hlo hL hpx
  have hts := hf.2.2.2.2.1
  have m1 := szs_mono h12
  have m2 := szs_mono h21
  have m3 := szs_mono hn.1
  have hM := hc.met (w := w) hN.2.2.1 hsl hw rfl h12 (by omega) l
  have e0 : (As.reverse ++ Value.ref a :: rest).map (vmp w) = (As.map (vmp w)).reverse ++ .ref (w.2.1 a) :: rest.map (vmp w) := by rw [List.map_append, List.map_reverse]; rfl
  rw [e0]
  have hcb := callB_wl (n := σ.2.2) (n' := n2) hf hR hN hlk hdd hna
  rw [hret] at hM hcb
  refine after_callX pc hw hf hR hn h12 h21 hlo hL hpx (va_runI (As := As.map (vmp w)) (rest := rest.map (vmp w)) (Ts := WL) ⟨hf.1, hf.2.1, hf.2.2.1, hf.2.2.2.1, hts⟩ hM ⟨hcb, hnm, hts _ hins⟩ ⟨PcO_blind w _ σ, fun U hU hW => ⟨rfl, by rw [hU]; exact hH, hf.2.2.2.2.2.2.2.2.warm hW⟩⟩ rfl (by rw [List.length_map]) hL.1 rfl ?_ hd ⟨by have := hR.2.2.1; omega, by have := hR.2.2.2; omega⟩) k
  show 2 * 0 + ((rest.map (vmp w)).map fun v => v.category).sum ≤ 8
  rw [vmp_sum]
  omega
/-- the script: its length and what it holds -/
def PX (Ls : Nat) (xs : Nat → Int32) : Wd → State → Prop := fun w s => va_X (w.2.1 1000) Ls xs s w.2.2.2.2 ∧ w.2.1 1000 < w.1
theorem rx_slen {Ls : Nat} {xs : Nat → Int32} {M : MR} {d n0 n1 : Nat} (pc : Nat) {L : List (Nat × Value)} {st : List Value} {σ : PS} {Q : Option Value → PS → Prop} (hd : decode M.2.1 pc = .ok (.arraylength, 1)) (k : RX (PX Ls xs) M d n0 n1 (pc + 1) L (.int (nI Ls) :: st) σ Q) : RX (PX Ls xs) M d n0 n1 pc L (.ref 1000 :: st) σ Q := by
  intro w p l e R s m args below meth c H locs ls hw hf hR hH hn hlo hL hp
  obtain ⟨⟨scr, h1, h2, h3, h4, h5⟩, hlt⟩ := id hp
  exact W.alen (n := nI Ls) hf.1 hf.2.1 (by rw [hH.2.2.1 _ hlt]; exact h1) h2 (by rw [h4] <;> rfl) rfl rfl hd (k w p l e R s m args below meth c H locs ls hw hf hR hH hn hlo hL hp)
theorem rx_sld {Ls : Nat} {xs : Nat → Int32} {M : MR} {d n0 n1 : Nat} (pc : Nat) {L : List (Nat × Value)} {st : List Value} {σ : PS} {Q : Option Value → PS → Prop} {i : Int32} (hd : decode M.2.1 pc = .ok (.iaload, 1)) (hi : inb i Ls) (k : RX (PX Ls xs) M d n0 n1 (pc + 1) L (.int (xs i.toNatClampNeg) :: st) σ Q) : RX (PX Ls xs) M d n0 n1 pc L (.int i :: .ref 1000 :: st) σ Q := by
  intro w p l e R s m args below meth c H locs ls hw hf hR hH hn hlo hL hp
  obtain ⟨⟨scr, h1, h2, h3, h4, h5⟩, hlt⟩ := id hp
  exact W.iald (v := .int (xs i.toNatClampNeg)) hf.1 hf.2.1 (by rw [hH.2.2.1 _ hlt]; exact h1) h2 h3 (by rw [h4]; exact hi) (h5 _ (inb_lt hi)) rfl rfl hd (k w p l e R s m args below meth c H locs ls hw hf hR hH hn hlo hL hp)
end RXS
/-! ===== the two texts change places: the roles are named anew ===== -/
def sw (k : Nat) : Nat := if 199 ≤ k ∧ k < 215 then k + 16 else if 215 ≤ k ∧ k < 231 then k - 16 else k
def swM (μ : Mem) : Mem := (fun b j => μ.1 (sw b) j, fun b j => μ.2 (sw b) j)
def Rf1 : Nat → Nat → Option Nat := wR (wR Rf0 0 9 (some 215)) 0 10 (some 199)
theorem sw_sw (k : Nat) : sw (sw k) = k := by
  unfold sw
  split <;> (repeat' split) <;> omega
theorem sw_lt {k : Nat} (h : k < NF) : sw k < NF := by
  unfold sw
  have : NF = 289 := rfl
  split <;> (repeat' split) <;> omega
theorem sw_hi {k : Nat} (h : 231 ≤ k) : sw k = k := by
  unfold sw
  rw [if_neg (by omega), if_neg (by omega)]
theorem sw_lay : ∀ k, k < NF → lay (sw k) = lay k := by decide +kernel
theorem sw_rlen : ∀ k, k < NF → rlen (sw k) = rlen k := by decide +kernel
theorem sw_rf : ∀ k, k < NF → ∀ j, j < rlen k → Rf1 (sw k) j = (Rf0 k j).map sw := by decide +kernel
def wdS (w : Wd) : Wd := (w.1, fun k => w.2.1 (sw k), w.2.2.1, w.2.2.2.1, w.2.2.2.2)
theorem wokS {w : Wd} (h : WOK w) : WOK (wdS w) := by
  refine ⟨fun i j hi hj e => ?_, fun k hk => h.2 _ (sw_lt hk)⟩
  have := h.1 (sw i) (sw j) (sw_lt hi) (sw_lt hj) e
  rw [← sw_sw i, this, sw_sw]
theorem relS {w : Wd} {μ : Mem} {H : Heap} (h : Rel w (μ, Rf1, NF) H) : Rel (wdS w) (swM μ, Rf0, NF) H := by
  obtain ⟨h1, h2, h3, h4, h5⟩ := h
  refine ⟨h1, fun k hk => ?_, h3, h4, fun j hj => absurd hj (by show ¬ NF + j < NF; omega)⟩
  have hk : k < NF := hk
  have := h2 (sw k) (sw_lt hk)
  have hrf := sw_rf k hk
  have hrl := sw_rlen k hk
  unfold cellR at this ⊢
  rw [sw_lay k hk] at this
  unfold rlen at hrf
  split
  · rename_i ci hl
    rw [hl] at this hrf
    refine t_OB.to this (fun j hj => ?_)
    unfold fv
    split
    · show va_rf ((Rf1 (sw k) j).map w.2.1) = va_rf ((Rf0 k j).map fun k => w.2.1 (sw k))
      rw [hrf j hj, Option.map_map]
      rfl
    · rfl
  · rename_i q hl
    rw [hl] at this hrf
    show H[w.2.1 (sw k)]? = _
    rw [this]
    congr 1
    apply arrV_congr
    intro j hj
    unfold av
    split
    · rfl
    · split
      · rfl
      · rename_i h8 h9
        have hrf9 : ∀ j, j < (if 3 < q.1 then q.2 else 0) → Rf1 (sw k) j = (Rf0 k j).map sw := hrf
        rw [if_pos (by omega)] at hrf9
        show va_rf ((Rf1 (sw k) j).map w.2.1) = va_rf ((Rf0 k j).map fun k => w.2.1 (sw k))
        rw [hrf9 j hj, Option.map_map]
        rfl
theorem sw_inv : ∀ k, k < NF → ∀ j, j < rlen k → Rf0 (sw k) j = (Rf1 k j).map sw := by decide +kernel
theorem relS2 {w : Wd} {σ : PS} {H : Heap} (h : Rel (wdS w) σ H) (hn : σ.2.2 = NF) : ∃ σ2 : PS, σ2.2.2 = NF ∧ Rel w σ2 H := by
  obtain ⟨h1, h2, h3, h4, h5⟩ := h
  refine ⟨((fun b j => σ.1.1 (sw b) j, fun b j => σ.1.2 (sw b) j), fun b j => (σ.2.1 (sw b) j).map sw, NF), rfl, Nat.le_refl _, fun k hk => ?_, h3, h4, fun j hj => absurd hj (by show ¬ NF + j < NF; omega)⟩
  have hk : k < NF := hk
  have := h2 (sw k) (by rw [hn]; exact sw_lt hk)
  unfold cellR at this ⊢
  rw [sw_lay k hk] at this
  have e1 : (wdS w).2.1 (sw k) = w.2.1 k := by show w.2.1 (sw (sw k)) = _; rw [sw_sw]
  split
  · rename_i ci hl
    rw [hl] at this
    rw [e1] at this
    refine t_OB.to this (fun j hj => ?_)
    unfold fv
    split
    · show va_rf ((σ.2.1 (sw k) j).map fun k => w.2.1 (sw k)) = va_rf (((σ.2.1 (sw k) j).map sw).map w.2.1)
      rw [Option.map_map]
      rfl
    · rfl
  · rename_i q hl
    rw [hl] at this
    rw [e1] at this
    rw [this]
    congr 1
    apply arrV_congr
    intro j hj
    unfold av
    split
    · rfl
    · split
      · rfl
      · show va_rf ((σ.2.1 (sw k) j).map fun k => w.2.1 (sw k)) = va_rf (((σ.2.1 (sw k) j).map sw).map w.2.1)
        rw [Option.map_map]
        rfl
theorem kokS {w : Wd} {s : State} (h : KOK w s) : KOK (wdS w) s := by
  obtain ⟨h1, h2, g, h3, h4, h5, h6, h7, L, xs, h8, h9⟩ := h
  refine ⟨h1, h2, g, ?_, ?_, ?_, h6, h7, L, xs, ?_, ?_⟩
  · show vk_R RX8 29 txW (w.2.1 (sw 1001)) s
    rw [sw_hi (by omega)]; exact h3
  · show vk_R RX8 76 txS (w.2.1 (sw 1003)) s
    rw [sw_hi (by omega)]; exact h4
  · have e1 : (fun i => (wdS w).2.1 (1001 + 2 * i)) = (fun i => w.2.1 (1001 + 2 * i)) := by funext i; show w.2.1 (sw _) = _; rw [sw_hi (by omega)]
    have e2 : (fun i => (wdS w).2.1 (1002 + 2 * i)) = (fun i => w.2.1 (1002 + 2 * i)) := by funext i; show w.2.1 (sw _) = _; rw [sw_hi (by omega)]
    rw [e1, e2]
    exact h5
  · show va_X (w.2.1 (sw 1000)) L xs s w.2.2.2.2
    rw [sw_hi (by omega)]; exact h8
  · show w.2.1 (sw 1000) < w.1
    rw [sw_hi (by omega)]; exact h9
def vok (v : Value) : Prop := match v with
  | .ref k => sw k = k
  | _ => True
theorem vmpS {w : Wd} {v : Value} (h : vok v) : vmp (wdS w) v = vmp w v := by
  cases v <;> first | rfl | (show Value.ref (w.2.1 (sw _)) = _; rw [show sw _ = _ from h]; rfl)
theorem rx_swap {Ls : Nat} {xs : Nat → Int32} {M : MR} {d n0 : Nat} (pc : Nat) {L : List (Nat × Value)} {st : List Value} {μ : Mem} (hL9 : ∀ q ∈ L, vok q.2) (hs9 : ∀ v ∈ st, vok v) (k : RX (PX Ls xs) M d n0 NF pc L st (swM μ, Rf0, NF) (fun r _ => r = some (.int 1))) : RX (PX Ls xs) M d n0 NF pc L st (μ, Rf1, NF) (fun r _ => r = some (.int 1)) := by
  intro w p l e R s m args below meth c H locs ls hw hf hR hH hn hlo hL hp
  have hf2 : FrOK M (wdS w) p s m args meth c := ⟨hf.1, hf.2.1, hf.2.2.1, hf.2.2.2.1, hf.2.2.2.2.1, hf.2.2.2.2.2.1, hf.2.2.2.2.2.2.1, hf.2.2.2.2.2.2.2.1, kokS hf.2.2.2.2.2.2.2.2⟩
  have hL2 : LcOK (wdS w) M.2.2.1 L ls := by
    have e : L.map (fun q => (q.1, vmp (wdS w) q.2)) = L.map (fun q => (q.1, vmp w q.2)) := List.map_congr_left fun q hq => by rw [vmpS (hL9 q hq)]
    show lv_has ls _ (L.map (fun q => (q.1, vmp (wdS w) q.2)))
    rw [e]
    exact hL
  have hp2 : PX Ls xs (wdS w) s := by
    obtain ⟨a, b⟩ := hp
    refine ⟨?_, ?_⟩
    · show va_X (w.2.1 (sw 1000)) Ls xs s w.2.2.2.2
      rw [sw_hi (by omega)]; exact a
    · show w.2.1 (sw 1000) < w.1
      rw [sw_hi (by omega)]; exact b
  have es : st.map (vmp (wdS w)) = st.map (vmp w) := List.map_congr_left fun v hv => vmpS (hs9 v hv)
  have := k (wdS w) p l e R s m args below meth c H locs ls (wokS hw) hf2 hR (relS hH) hn hlo hL2 hp2
  rw [es] at this
  intro T hT X
  obtain ⟨t, a1, o, b1, b2, ⟨r, σ2, q1, q2, q3, q4⟩, b4⟩ := this T hT X
  obtain ⟨σ3, z1, z2⟩ := relS2 q4 q2
  subst q1
  exact ⟨t, a1, o, b1, b2, ⟨some (.int 1), σ3, rfl, z1, q3, z2⟩, b4⟩

