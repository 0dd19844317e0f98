/-! ===== rows: constants, locals, stack, arithmetic, branches ===== -/
theorem rw_iconst {M : MR} {d n0 n1 : Nat} (pc : Nat) {L : List (Nat × Value)} {st : List Value} {σ : PS} {Q : Option Value → PS → Prop} {n : Int} {v : Int32} (hd : decode M.2.1 pc = .ok (.iconst n, 1)) (hv : Int32.ofInt n = v) (k : RW M d n0 n1 (pc + 1) L (.int v :: st) σ Q) : RW M d n0 n1 pc L st σ Q := by
  intro w p l e R s m args below meth c H locs ls hw hf hR hH hn hlo hL
  exact lv_iconst hf.1 hf.2.1 hd hv (k w p l e R s m args below meth c H locs ls hw hf hR hH hn hlo hL)
theorem rw_bipush {M : MR} {d n0 n1 : Nat} (pc : Nat) {L : List (Nat × Value)} {st : List Value} {σ : PS} {Q : Option Value → PS → Prop} {n : Int} {v : Int32} (hd : decode M.2.1 pc = .ok (.bipush n, 2)) (hv : (Int8.ofInt n).toInt32 = v) (k : RW M d n0 n1 (pc + 2) L (.int v :: st) σ Q) : RW M d n0 n1 pc L st σ Q := by
  intro w p l e R s m args below meth c H locs ls hw hf hR hH hn hlo hL
  exact lv_bipush hf.1 hf.2.1 hd hv (k w p l e R s m args below meth c H locs ls hw hf hR hH hn hlo hL)
theorem rw_sipush {M : MR} {d n0 n1 : Nat} (pc : Nat) {L : List (Nat × Value)} {st : List Value} {σ : PS} {Q : Option Value → PS → Prop} {n : Int} {v : Int32} (hd : decode M.2.1 pc = .ok (.sipush n, 3)) (hv : (Int16.ofInt n).toInt32 = v) (k : RW M d n0 n1 (pc + 3) L (.int v :: st) σ Q) : RW M d n0 n1 pc L st σ Q := by
  intro w p l e R s m args below meth c H locs ls hw hf hR hH hn hlo hL
  exact lv_sipush hf.1 hf.2.1 hd hv (k w p l e R s m args below meth c H locs ls hw hf hR hH hn hlo hL)
theorem rw_lconst {M : MR} {d n0 n1 : Nat} (pc : Nat) {L : List (Nat × Value)} {st : List Value} {σ : PS} {Q : Option Value → PS → Prop} {n : Fin 2} {v : Int64} (hd : decode M.2.1 pc = .ok (.lconst n, 1)) (hv : Int64.ofNat (n : Nat) = v) (k : RW M d n0 n1 (pc + 1) L (.long v :: st) σ Q) : RW M d n0 n1 pc L st σ Q := by
  intro w p l e R s m args below meth c H locs ls hw hf hR hH hn hlo hL
  exact lv_lconst hf.1 hf.2.1 hd hv (k w p l e R s m args below meth c H locs ls hw hf hR hH hn hlo hL)
theorem rw_iload_n {M : MR} {d n0 n1 : Nat} (pc : Nat) {L : List (Nat × Value)} {st : List Value} {σ : PS} {Q : Option Value → PS → Prop} {k0 : Fin 4} {x : Int32} (hd : decode M.2.1 pc = .ok (.iload_n k0, 1)) (i : Nat) (hg : L[i]? = some ((k0 : Nat), .int x)) (k : RW M d n0 n1 (pc + 1) L (.int x :: st) σ Q) : RW M d n0 n1 pc L st σ Q := by
  intro w p l e R s m args below meth c H locs ls hw hf hR hH hn hlo hL
  exact lv_iload_n hf.1 hf.2.1 hd rfl (lc_get hL i hg) (k w p l e R s m args below meth c H locs ls hw hf hR hH hn hlo hL)
theorem rw_iload {M : MR} {d n0 n1 : Nat} (pc : Nat) {L : List (Nat × Value)} {st : List Value} {σ : PS} {Q : Option Value → PS → Prop} {j : Nat} {x : Int32} (hd : decode M.2.1 pc = .ok (.iload j, 2)) (i : Nat) (hg : L[i]? = some (j, .int x)) (k : RW M d n0 n1 (pc + 2) L (.int x :: st) σ Q) : RW M d n0 n1 pc L st σ Q := by
  intro w p l e R s m args below meth c H locs ls hw hf hR hH hn hlo hL
  exact lv_iload hf.1 hf.2.1 hd (lc_get hL i hg) (k w p l e R s m args below meth c H locs ls hw hf hR hH hn hlo hL)
theorem rw_istore_n {M : MR} {d n0 n1 : Nat} (pc : Nat) {L : List (Nat × Value)} {st : List Value} {σ : PS} {Q : Option Value → PS → Prop} {k0 : Fin 4} {x : Int32} (L2 : List (Nat × Value)) (hd : decode M.2.1 pc = .ok (.istore_n k0, 1)) (hlt : (k0 : Nat) < M.2.2.1) (hs : sto1 (k0 : Nat) (.int x) L = L2) (k : RW M d n0 n1 (pc + 1) L2 st σ Q) : RW M d n0 n1 pc L (.int x :: st) σ Q := by
  subst hs
  intro w p l e R s m args below meth c H locs ls hw hf hR hH hn hlo hL
  exact lv_istore_n hf.1 hf.2.1 hd rfl hL hlt rfl (fun ls9 h9 => k w p l e R s m args below meth c H locs ls9 hw hf hR hH hn hlo (lc_sto1 (v := .int x) h9))
theorem rw_istore {M : MR} {d n0 n1 : Nat} (pc : Nat) {L : List (Nat × Value)} {st : List Value} {σ : PS} {Q : Option Value → PS → Prop} {j : Nat} {x : Int32} (L2 : List (Nat × Value)) (hd : decode M.2.1 pc = .ok (.istore j, 2)) (hlt : j < M.2.2.1) (hs : sto1 j (.int x) L = L2) (k : RW M d n0 n1 (pc + 2) L2 st σ Q) : RW M d n0 n1 pc L (.int x :: st) σ Q := by
  subst hs
  intro w p l e R s m args below meth c H locs ls hw hf hR hH hn hlo hL
  exact lv_istore hf.1 hf.2.1 hd hL hlt rfl (fun ls9 h9 => k w p l e R s m args below meth c H locs ls9 hw hf hR hH hn hlo (lc_sto1 (v := .int x) h9))
theorem rw_lload_n {M : MR} {d n0 n1 : Nat} (pc : Nat) {L : List (Nat × Value)} {st : List Value} {σ : PS} {Q : Option Value → PS → Prop} {k0 : Fin 4} {x : Int64} (hd : decode M.2.1 pc = .ok (.lload_n k0, 1)) (i : Nat) (hg : L[i]? = some ((k0 : Nat), .long x)) (k : RW M d n0 n1 (pc + 1) L (.long x :: st) σ Q) : RW M d n0 n1 pc L st σ Q := by
  intro w p l e R s m args below meth c H locs ls hw hf hR hH hn hlo hL
  exact lv_lload_n hf.1 hf.2.1 hd rfl (lc_get hL i hg) (k w p l e R s m args below meth c H locs ls hw hf hR hH hn hlo hL)
theorem rw_lload {M : MR} {d n0 n1 : Nat} (pc : Nat) {L : List (Nat × Value)} {st : List Value} {σ : PS} {Q : Option Value → PS → Prop} {j : Nat} {x : Int64} (hd : decode M.2.1 pc = .ok (.lload j, 2)) (i : Nat) (hg : L[i]? = some (j, .long x)) (k : RW M d n0 n1 (pc + 2) L (.long x :: st) σ Q) : RW M d n0 n1 pc L st σ Q := by
  intro w p l e R s m args below meth c H locs ls hw hf hR hH hn hlo hL
  exact lv_lload hf.1 hf.2.1 hd (lc_get hL i hg) (k w p l e R s m args below meth c H locs ls hw hf hR hH hn hlo hL)
theorem rw_lstore_n {M : MR} {d n0 n1 : Nat} (pc : Nat) {L : List (Nat × Value)} {st : List Value} {σ : PS} {Q : Option Value → PS → Prop} {k0 : Fin 4} {x : Int64} (L2 : List (Nat × Value)) (hd : decode M.2.1 pc = .ok (.lstore_n k0, 1)) (hlt : (k0 : Nat) + 1 < M.2.2.1) (hs : sto2 (k0 : Nat) (.long x) L = L2) (k : RW M d n0 n1 (pc + 1) L2 st σ Q) : RW M d n0 n1 pc L (.long x :: st) σ Q := by
  subst hs
  intro w p l e R s m args below meth c H locs ls hw hf hR hH hn hlo hL
  exact lv_lstore_n hf.1 hf.2.1 hd rfl hL hlt rfl (fun ls9 h9 => k w p l e R s m args below meth c H locs ls9 hw hf hR hH hn hlo (lc_sto2 (v := .long x) h9))
theorem rw_lstore {M : MR} {d n0 n1 : Nat} (pc : Nat) {L : List (Nat × Value)} {st : List Value} {σ : PS} {Q : Option Value → PS → Prop} {j : Nat} {x : Int64} (L2 : List (Nat × Value)) (hd : decode M.2.1 pc = .ok (.lstore j, 2)) (hlt : j + 1 < M.2.2.1) (hs : sto2 j (.long x) L = L2) (k : RW M d n0 n1 (pc + 2) L2 st σ Q) : RW M d n0 n1 pc L (.long x :: st) σ Q := by
  subst hs
  intro w p l e R s m args below meth c H locs ls hw hf hR hH hn hlo hL
  exact lv_lstore hf.1 hf.2.1 hd hL hlt rfl (fun ls9 h9 => k w p l e R s m args below meth c H locs ls9 hw hf hR hH hn hlo (lc_sto2 (v := .long x) h9))
theorem rw_aload_n {M : MR} {d n0 n1 : Nat} (pc : Nat) {L : List (Nat × Value)} {st : List Value} {σ : PS} {Q : Option Value → PS → Prop} {k0 : Fin 4} {x : Nat} (hd : decode M.2.1 pc = .ok (.aload_n k0, 1)) (i : Nat) (hg : L[i]? = some ((k0 : Nat), .ref x)) (k : RW M d n0 n1 (pc + 1) L (.ref x :: st) σ Q) : RW M d n0 n1 pc L st σ Q := by
  intro w p l e R s m args below meth c H locs ls hw hf hR hH hn hlo hL
  exact lv_aload_n hf.1 hf.2.1 hd rfl (lc_get hL i hg) (k w p l e R s m args below meth c H locs ls hw hf hR hH hn hlo hL)
theorem rw_aload {M : MR} {d n0 n1 : Nat} (pc : Nat) {L : List (Nat × Value)} {st : List Value} {σ : PS} {Q : Option Value → PS → Prop} {j : Nat} {x : Nat} (hd : decode M.2.1 pc = .ok (.aload j, 2)) (i : Nat) (hg : L[i]? = some (j, .ref x)) (k : RW M d n0 n1 (pc + 2) L (.ref x :: st) σ Q) : RW M d n0 n1 pc L st σ Q := by
  intro w p l e R s m args below meth c H locs ls hw hf hR hH hn hlo hL
  exact lv_aload hf.1 hf.2.1 hd (lc_get hL i hg) (k w p l e R s m args below meth c H locs ls hw hf hR hH hn hlo hL)
theorem rw_astore_n {M : MR} {d n0 n1 : Nat} (pc : Nat) {L : List (Nat × Value)} {st : List Value} {σ : PS} {Q : Option Value → PS → Prop} {k0 : Fin 4} {x : Nat} (L2 : List (Nat × Value)) (hd : decode M.2.1 pc = .ok (.astore_n k0, 1)) (hlt : (k0 : Nat) < M.2.2.1) (hs : sto1 (k0 : Nat) (.ref x) L = L2) (k : RW M d n0 n1 (pc + 1) L2 st σ Q) : RW M d n0 n1 pc L (.ref x :: st) σ Q := by
  subst hs
  intro w p l e R s m args below meth c H locs ls hw hf hR hH hn hlo hL
  exact lv_astore_n hf.1 hf.2.1 hd rfl hL hlt rfl (fun ls9 h9 => k w p l e R s m args below meth c H locs ls9 hw hf hR hH hn hlo (lc_sto1 (v := .ref x) h9))
theorem rw_astore {M : MR} {d n0 n1 : Nat} (pc : Nat) {L : List (Nat × Value)} {st : List Value} {σ : PS} {Q : Option Value → PS → Prop} {j : Nat} {x : Nat} (L2 : List (Nat × Value)) (hd : decode M.2.1 pc = .ok (.astore j, 2)) (hlt : j < M.2.2.1) (hs : sto1 j (.ref x) L = L2) (k : RW M d n0 n1 (pc + 2) L2 st σ Q) : RW M d n0 n1 pc L (.ref x :: st) σ Q := by
  subst hs
  intro w p l e R s m args below meth c H locs ls hw hf hR hH hn hlo hL
  exact lv_astore hf.1 hf.2.1 hd hL hlt rfl (fun ls9 h9 => k w p l e R s m args below meth c H locs ls9 hw hf hR hH hn hlo (lc_sto1 (v := .ref x) h9))
theorem rw_iinc {M : MR} {d n0 n1 : Nat} (pc : Nat) {L : List (Nat × Value)} {st : List Value} {σ : PS} {Q : Option Value → PS → Prop} {j : Nat} {n : Int} {x v : Int32} (L2 : List (Nat × Value)) (hd : decode M.2.1 pc = .ok (.iinc j n, 3)) (i : Nat) (hg : L[i]? = some (j, .int x)) (hv : x + Int32.ofInt n = v) (hlt : j < M.2.2.1) (hs : sto1 j (.int v) L = L2) (k : RW M d n0 n1 (pc + 3) L2 st σ Q) : RW M d n0 n1 pc L st σ Q := by
  subst hs
  intro w p l e R s m args below meth c H locs ls hw hf hR hH hn hlo hL
  exact lv_iinc hf.1 hf.2.1 hd hL (k := i) (by rw [List.getElem?_map, hg]; rfl) hv hlt rfl (fun ls9 h9 => k w p l e R s m args below meth c H locs ls9 hw hf hR hH hn hlo (lc_sto1 (v := .int v) h9))
theorem rw_iadd {M : MR} {d n0 n1 : Nat} (pc : Nat) {L : List (Nat × Value)} {st : List Value} {σ : PS} {Q : Option Value → PS → Prop} {x y : Int32} (hd : decode M.2.1 pc = .ok (.iadd, 1))  (k : RW M d n0 n1 (pc + 1) L (.int (x + y) :: st) σ Q) : RW M d n0 n1 pc L (.int y :: .int x :: st) σ Q := by
  intro w p l e R s m args below meth c H locs ls hw hf hR hH hn hlo hL
  exact lv_iadd hf.1 hf.2.1 hd (k w p l e R s m args below meth c H locs ls hw hf hR hH hn hlo hL)
theorem rw_isub {M : MR} {d n0 n1 : Nat} (pc : Nat) {L : List (Nat × Value)} {st : List Value} {σ : PS} {Q : Option Value → PS → Prop} {x y : Int32} (hd : decode M.2.1 pc = .ok (.isub, 1))  (k : RW M d n0 n1 (pc + 1) L (.int (x - y) :: st) σ Q) : RW M d n0 n1 pc L (.int y :: .int x :: st) σ Q := by
  intro w p l e R s m args below meth c H locs ls hw hf hR hH hn hlo hL
  exact lv_isub hf.1 hf.2.1 hd (k w p l e R s m args below meth c H locs ls hw hf hR hH hn hlo hL)
theorem rw_imul {M : MR} {d n0 n1 : Nat} (pc : Nat) {L : List (Nat × Value)} {st : List Value} {σ : PS} {Q : Option Value → PS → Prop} {x y : Int32} (hd : decode M.2.1 pc = .ok (.imul, 1))  (k : RW M d n0 n1 (pc + 1) L (.int (x * y) :: st) σ Q) : RW M d n0 n1 pc L (.int y :: .int x :: st) σ Q := by
  intro w p l e R s m args below meth c H locs ls hw hf hR hH hn hlo hL
  exact lv_imul hf.1 hf.2.1 hd (k w p l e R s m args below meth c H locs ls hw hf hR hH hn hlo hL)
theorem rw_iand {M : MR} {d n0 n1 : Nat} (pc : Nat) {L : List (Nat × Value)} {st : List Value} {σ : PS} {Q : Option Value → PS → Prop} {x y : Int32} (hd : decode M.2.1 pc = .ok (.iand, 1))  (k : RW M d n0 n1 (pc + 1) L (.int (x &&& y) :: st) σ Q) : RW M d n0 n1 pc L (.int y :: .int x :: st) σ Q := by
  intro w p l e R s m args below meth c H locs ls hw hf hR hH hn hlo hL
  exact lv_iand hf.1 hf.2.1 hd (k w p l e R s m args below meth c H locs ls hw hf hR hH hn hlo hL)
theorem rw_ior {M : MR} {d n0 n1 : Nat} (pc : Nat) {L : List (Nat × Value)} {st : List Value} {σ : PS} {Q : Option Value → PS → Prop} {x y : Int32} (hd : decode M.2.1 pc = .ok (.ior, 1))  (k : RW M d n0 n1 (pc + 1) L (.int (x ||| y) :: st) σ Q) : RW M d n0 n1 pc L (.int y :: .int x :: st) σ Q := by
  intro w p l e R s m args below meth c H locs ls hw hf hR hH hn hlo hL
  exact lv_ior hf.1 hf.2.1 hd (k w p l e R s m args below meth c H locs ls hw hf hR hH hn hlo hL)
theorem rw_ixor {M : MR} {d n0 n1 : Nat} (pc : Nat) {L : List (Nat × Value)} {st : List Value} {σ : PS} {Q : Option Value → PS → Prop} {x y : Int32} (hd : decode M.2.1 pc = .ok (.ixor, 1))  (k : RW M d n0 n1 (pc + 1) L (.int (x ^^^ y) :: st) σ Q) : RW M d n0 n1 pc L (.int y :: .int x :: st) σ Q := by
  intro w p l e R s m args below meth c H locs ls hw hf hR hH hn hlo hL
  exact lv_ixor hf.1 hf.2.1 hd (k w p l e R s m args below meth c H locs ls hw hf hR hH hn hlo hL)
theorem rw_ishl {M : MR} {d n0 n1 : Nat} (pc : Nat) {L : List (Nat × Value)} {st : List Value} {σ : PS} {Q : Option Value → PS → Prop} {x y : Int32} (hd : decode M.2.1 pc = .ok (.ishl, 1))  (k : RW M d n0 n1 (pc + 1) L (.int (x <<< (y &&& 31)) :: st) σ Q) : RW M d n0 n1 pc L (.int y :: .int x :: st) σ Q := by
  intro w p l e R s m args below meth c H locs ls hw hf hR hH hn hlo hL
  exact lv_ishl hf.1 hf.2.1 hd (k w p l e R s m args below meth c H locs ls hw hf hR hH hn hlo hL)
theorem rw_ishr {M : MR} {d n0 n1 : Nat} (pc : Nat) {L : List (Nat × Value)} {st : List Value} {σ : PS} {Q : Option Value → PS → Prop} {x y : Int32} (hd : decode M.2.1 pc = .ok (.ishr, 1))  (k : RW M d n0 n1 (pc + 1) L (.int (x >>> (y &&& 31)) :: st) σ Q) : RW M d n0 n1 pc L (.int y :: .int x :: st) σ Q := by
  intro w p l e R s m args below meth c H locs ls hw hf hR hH hn hlo hL
  exact lv_ishr hf.1 hf.2.1 hd (k w p l e R s m args below meth c H locs ls hw hf hR hH hn hlo hL)
theorem rw_ladd {M : MR} {d n0 n1 : Nat} (pc : Nat) {L : List (Nat × Value)} {st : List Value} {σ : PS} {Q : Option Value → PS → Prop} {x y : Int64} (hd : decode M.2.1 pc = .ok (.ladd, 1))  (k : RW M d n0 n1 (pc + 1) L (.long (x + y) :: st) σ Q) : RW M d n0 n1 pc L (.long y :: .long x :: st) σ Q := by
  intro w p l e R s m args below meth c H locs ls hw hf hR hH hn hlo hL
  exact lv_ladd hf.1 hf.2.1 hd (k w p l e R s m args below meth c H locs ls hw hf hR hH hn hlo hL)
theorem rw_lsub {M : MR} {d n0 n1 : Nat} (pc : Nat) {L : List (Nat × Value)} {st : List Value} {σ : PS} {Q : Option Value → PS → Prop} {x y : Int64} (hd : decode M.2.1 pc = .ok (.lsub, 1))  (k : RW M d n0 n1 (pc + 1) L (.long (x - y) :: st) σ Q) : RW M d n0 n1 pc L (.long y :: .long x :: st) σ Q := by
  intro w p l e R s m args below meth c H locs ls hw hf hR hH hn hlo hL
  exact lv_lsub hf.1 hf.2.1 hd (k w p l e R s m args below meth c H locs ls hw hf hR hH hn hlo hL)
theorem rw_lmul {M : MR} {d n0 n1 : Nat} (pc : Nat) {L : List (Nat × Value)} {st : List Value} {σ : PS} {Q : Option Value → PS → Prop} {x y : Int64} (hd : decode M.2.1 pc = .ok (.lmul, 1))  (k : RW M d n0 n1 (pc + 1) L (.long (x * y) :: st) σ Q) : RW M d n0 n1 pc L (.long y :: .long x :: st) σ Q := by
  intro w p l e R s m args below meth c H locs ls hw hf hR hH hn hlo hL
  exact lv_lmul hf.1 hf.2.1 hd (k w p l e R s m args below meth c H locs ls hw hf hR hH hn hlo hL)
theorem rw_land {M : MR} {d n0 n1 : Nat} (pc : Nat) {L : List (Nat × Value)} {st : List Value} {σ : PS} {Q : Option Value → PS → Prop} {x y : Int64} (hd : decode M.2.1 pc = .ok (.land, 1))  (k : RW M d n0 n1 (pc + 1) L (.long (x &&& y) :: st) σ Q) : RW M d n0 n1 pc L (.long y :: .long x :: st) σ Q := by
  intro w p l e R s m args below meth c H locs ls hw hf hR hH hn hlo hL
  exact lv_land hf.1 hf.2.1 hd (k w p l e R s m args below meth c H locs ls hw hf hR hH hn hlo hL)
theorem rw_lor {M : MR} {d n0 n1 : Nat} (pc : Nat) {L : List (Nat × Value)} {st : List Value} {σ : PS} {Q : Option Value → PS → Prop} {x y : Int64} (hd : decode M.2.1 pc = .ok (.lor, 1))  (k : RW M d n0 n1 (pc + 1) L (.long (x ||| y) :: st) σ Q) : RW M d n0 n1 pc L (.long y :: .long x :: st) σ Q := by
  intro w p l e R s m args below meth c H locs ls hw hf hR hH hn hlo hL
  exact lv_lor hf.1 hf.2.1 hd (k w p l e R s m args below meth c H locs ls hw hf hR hH hn hlo hL)
theorem rw_lxor {M : MR} {d n0 n1 : Nat} (pc : Nat) {L : List (Nat × Value)} {st : List Value} {σ : PS} {Q : Option Value → PS → Prop} {x y : Int64} (hd : decode M.2.1 pc = .ok (.lxor, 1))  (k : RW M d n0 n1 (pc + 1) L (.long (x ^^^ y) :: st) σ Q) : RW M d n0 n1 pc L (.long y :: .long x :: st) σ Q := by
  intro w p l e R s m args below meth c H locs ls hw hf hR hH hn hlo hL
  exact lv_lxor hf.1 hf.2.1 hd (k w p l e R s m args below meth c H locs ls hw hf hR hH hn hlo hL)
theorem rw_idiv {M : MR} {d n0 n1 : Nat} (pc : Nat) {L : List (Nat × Value)} {st : List Value} {σ : PS} {Q : Option Value → PS → Prop} {x y : Int32} (hd : decode M.2.1 pc = .ok (.idiv, 1)) (hne : ¬ y = 0) (k : RW M d n0 n1 (pc + 1) L (.int (x / y) :: st) σ Q) : RW M d n0 n1 pc L (.int y :: .int x :: st) σ Q := by
  intro w p l e R s m args below meth c H locs ls hw hf hR hH hn hlo hL
  exact lv_idiv hf.1 hf.2.1 hd hne (k w p l e R s m args below meth c H locs ls hw hf hR hH hn hlo hL)
theorem rw_irem {M : MR} {d n0 n1 : Nat} (pc : Nat) {L : List (Nat × Value)} {st : List Value} {σ : PS} {Q : Option Value → PS → Prop} {x y : Int32} (hd : decode M.2.1 pc = .ok (.irem, 1)) (hne : ¬ y = 0) (k : RW M d n0 n1 (pc + 1) L (.int (x - x / y * y) :: st) σ Q) : RW M d n0 n1 pc L (.int y :: .int x :: st) σ Q := by
  intro w p l e R s m args below meth c H locs ls hw hf hR hH hn hlo hL
  exact lv_irem hf.1 hf.2.1 hd hne (k w p l e R s m args below meth c H locs ls hw hf hR hH hn hlo hL)
theorem rw_iushr {M : MR} {d n0 n1 : Nat} (pc : Nat) {L : List (Nat × Value)} {st : List Value} {σ : PS} {Q : Option Value → PS → Prop} {x y : Int32} (hd : decode M.2.1 pc = .ok (.iushr, 1))  (k : RW M d n0 n1 (pc + 1) L (.int ((x.toUInt32 >>> (y.toUInt32 &&& Int32.toUInt32 31)).toInt32) :: st) σ Q) : RW M d n0 n1 pc L (.int y :: .int x :: st) σ Q := by
  intro w p l e R s m args below meth c H locs ls hw hf hR hH hn hlo hL
  exact lv_iushr hf.1 hf.2.1 hd rfl (k w p l e R s m args below meth c H locs ls hw hf hR hH hn hlo hL)
theorem rw_lushr {M : MR} {d n0 n1 : Nat} (pc : Nat) {L : List (Nat × Value)} {st : List Value} {σ : PS} {Q : Option Value → PS → Prop} {x : Int64} {y : Int32} (hd : decode M.2.1 pc = .ok (.lushr, 1))  (k : RW M d n0 n1 (pc + 1) L (.long ((x.toUInt64 >>> (y.toInt64.toUInt64 &&& Int64.toUInt64 63)).toInt64) :: st) σ Q) : RW M d n0 n1 pc L (.int y :: .long x :: st) σ Q := by
  intro w p l e R s m args below meth c H locs ls hw hf hR hH hn hlo hL
  exact lv_lushr hf.1 hf.2.1 hd rfl (k w p l e R s m args below meth c H locs ls hw hf hR hH hn hlo hL)
theorem rw_lshl {M : MR} {d n0 n1 : Nat} (pc : Nat) {L : List (Nat × Value)} {st : List Value} {σ : PS} {Q : Option Value → PS → Prop} {x : Int64} {y : Int32} (hd : decode M.2.1 pc = .ok (.lshl, 1))  (k : RW M d n0 n1 (pc + 1) L (.long (x <<< (y.toInt64 &&& 63)) :: st) σ Q) : RW M d n0 n1 pc L (.int y :: .long x :: st) σ Q := by
  intro w p l e R s m args below meth c H locs ls hw hf hR hH hn hlo hL
  exact lv_lshl hf.1 hf.2.1 hd rfl (k w p l e R s m args below meth c H locs ls hw hf hR hH hn hlo hL)
theorem rw_i2l {M : MR} {d n0 n1 : Nat} (pc : Nat) {L : List (Nat × Value)} {st : List Value} {σ : PS} {Q : Option Value → PS → Prop} {x : Int32} (hd : decode M.2.1 pc = .ok (.i2l, 1))  (k : RW M d n0 n1 (pc + 1) L (.long x.toInt64 :: st) σ Q) : RW M d n0 n1 pc L (.int x :: st) σ Q := by
  intro w p l e R s m args below meth c H locs ls hw hf hR hH hn hlo hL
  exact lv_i2l hf.1 hf.2.1 hd rfl (k w p l e R s m args below meth c H locs ls hw hf hR hH hn hlo hL)
theorem rw_l2i {M : MR} {d n0 n1 : Nat} (pc : Nat) {L : List (Nat × Value)} {st : List Value} {σ : PS} {Q : Option Value → PS → Prop} {x : Int64} (hd : decode M.2.1 pc = .ok (.l2i, 1))  (k : RW M d n0 n1 (pc + 1) L (.int x.toInt32 :: st) σ Q) : RW M d n0 n1 pc L (.long x :: st) σ Q := by
  intro w p l e R s m args below meth c H locs ls hw hf hR hH hn hlo hL
  exact lv_l2i hf.1 hf.2.1 hd rfl (k w p l e R s m args below meth c H locs ls hw hf hR hH hn hlo hL)
theorem rw_i2b {M : MR} {d n0 n1 : Nat} (pc : Nat) {L : List (Nat × Value)} {st : List Value} {σ : PS} {Q : Option Value → PS → Prop} {x : Int32} (hd : decode M.2.1 pc = .ok (.i2b, 1))  (k : RW M d n0 n1 (pc + 1) L (.int x.toInt8.toInt32 :: st) σ Q) : RW M d n0 n1 pc L (.int x :: st) σ Q := by
  intro w p l e R s m args below meth c H locs ls hw hf hR hH hn hlo hL
  exact lv_i2b hf.1 hf.2.1 hd rfl (k w p l e R s m args below meth c H locs ls hw hf hR hH hn hlo hL)
theorem rw_i2c {M : MR} {d n0 n1 : Nat} (pc : Nat) {L : List (Nat × Value)} {st : List Value} {σ : PS} {Q : Option Value → PS → Prop} {x : Int32} (hd : decode M.2.1 pc = .ok (.i2c, 1))  (k : RW M d n0 n1 (pc + 1) L (.int (x.toUInt32 % 65536).toInt32 :: st) σ Q) : RW M d n0 n1 pc L (.int x :: st) σ Q := by
  intro w p l e R s m args below meth c H locs ls hw hf hR hH hn hlo hL
  exact lv_i2c hf.1 hf.2.1 hd rfl (k w p l e R s m args below meth c H locs ls hw hf hR hH hn hlo hL)
theorem rw_lcmp {M : MR} {d n0 n1 : Nat} (pc : Nat) {L : List (Nat × Value)} {st : List Value} {σ : PS} {Q : Option Value → PS → Prop} {x y : Int64} (hd : decode M.2.1 pc = .ok (.lcmp, 1))  (k : RW M d n0 n1 (pc + 1) L (.int (lg_cmp x y) :: st) σ Q) : RW M d n0 n1 pc L (.long y :: .long x :: st) σ Q := by
  intro w p l e R s m args below meth c H locs ls hw hf hR hH hn hlo hL
  exact W.lcmp hf.1 hf.2.1 hd (k w p l e R s m args below meth c H locs ls hw hf hR hH hn hlo hL)
theorem rw_dup {M : MR} {d n0 n1 : Nat} (pc : Nat) {L : List (Nat × Value)} {st : List Value} {σ : PS} {Q : Option Value → PS → Prop} {v : Value} (hd : decode M.2.1 pc = .ok (.dup, 1)) (hc : v.category = 1) (k : RW M d n0 n1 (pc + 1) L (v :: v :: st) σ Q) : RW M d n0 n1 pc L (v :: st) σ Q := by
  intro w p l e R s m args below meth c H locs ls hw hf hR hH hn hlo hL
  exact lv_dup hf.1 hf.2.1 hd (by rw [vmp_cat]; exact hc) (k w p l e R s m args below meth c H locs ls hw hf hR hH hn hlo hL)
theorem rw_pop {M : MR} {d n0 n1 : Nat} (pc : Nat) {L : List (Nat × Value)} {st : List Value} {σ : PS} {Q : Option Value → PS → Prop} {v : Value} (hd : decode M.2.1 pc = .ok (.pop, 1)) (hc : v.category = 1) (k : RW M d n0 n1 (pc + 1) L st σ Q) : RW M d n0 n1 pc L (v :: st) σ Q := by
  intro w p l e R s m args below meth c H locs ls hw hf hR hH hn hlo hL
  exact lv_pop hf.1 hf.2.1 hd (by rw [vmp_cat]; exact hc) (k w p l e R s m args below meth c H locs ls hw hf hR hH hn hlo hL)
theorem rw_dup2 {M : MR} {d n0 n1 : Nat} (pc : Nat) {L : List (Nat × Value)} {st : List Value} {σ : PS} {Q : Option Value → PS → Prop} {v u : Value} (hd : decode M.2.1 pc = .ok (.dup2, 1)) (hc : v.category = 1) (hc2 : u.category = 1) (k : RW M d n0 n1 (pc + 1) L (v :: u :: v :: u :: st) σ Q) : RW M d n0 n1 pc L (v :: u :: st) σ Q := by
  intro w p l e R s m args below meth c H locs ls hw hf hR hH hn hlo hL
  exact lv_dup2_11 hf.1 hf.2.1 hd (by rw [vmp_cat]; exact hc) (by rw [vmp_cat]; exact hc2) (k w p l e R s m args below meth c H locs ls hw hf hR hH hn hlo hL)
theorem rw_dup_x1 {M : MR} {d n0 n1 : Nat} (pc : Nat) {L : List (Nat × Value)} {st : List Value} {σ : PS} {Q : Option Value → PS → Prop} {v u : Value} (hd : decode M.2.1 pc = .ok (.dup_x1, 1)) (hc : v.category = 1) (hc2 : u.category = 1) (k : RW M d n0 n1 (pc + 1) L (v :: u :: v :: st) σ Q) : RW M d n0 n1 pc L (v :: u :: st) σ Q := by
  intro w p l e R s m args below meth c H locs ls hw hf hR hH hn hlo hL
  exact lv_dup_x1 hf.1 hf.2.1 hd (by rw [vmp_cat]; exact hc) (by rw [vmp_cat]; exact hc2) (k w p l e R s m args below meth c H locs ls hw hf hR hH hn hlo hL)
theorem rw_if_eq {M : MR} {d n0 n1 : Nat} (pc : Nat) {L : List (Nat × Value)} {st : List Value} {σ : PS} {Q : Option Value → PS → Prop} {x : Int32} {off : Int} (tgt : Nat) (hd : decode M.2.1 pc = .ok (.ifCond .eq off, 3)) (ht : (pc : Int) + off = (tgt : Int)) (kt : x = 0 → RW M d n0 n1 tgt L st σ Q) (kf : ¬ x = 0 → RW M d n0 n1 (pc + 3) L st σ Q) : RW M d n0 n1 pc L (.int x :: st) σ Q := by
  intro w p l e R s m args below meth c H locs ls hw hf hR hH hn hlo hL
  exact lv_if_eq hf.1 hf.2.1 hd ht (fun h9 => kt h9 w p l e R s m args below meth c H locs ls hw hf hR hH hn hlo hL) (fun h9 => kf h9 w p l e R s m args below meth c H locs ls hw hf hR hH hn hlo hL)
theorem rw_if_ne {M : MR} {d n0 n1 : Nat} (pc : Nat) {L : List (Nat × Value)} {st : List Value} {σ : PS} {Q : Option Value → PS → Prop} {x : Int32} {off : Int} (tgt : Nat) (hd : decode M.2.1 pc = .ok (.ifCond .ne off, 3)) (ht : (pc : Int) + off = (tgt : Int)) (kt : ¬ x = 0 → RW M d n0 n1 tgt L st σ Q) (kf : x = 0 → RW M d n0 n1 (pc + 3) L st σ Q) : RW M d n0 n1 pc L (.int x :: st) σ Q := by
  intro w p l e R s m args below meth c H locs ls hw hf hR hH hn hlo hL
  exact lv_if_ne hf.1 hf.2.1 hd ht (fun h9 => kt h9 w p l e R s m args below meth c H locs ls hw hf hR hH hn hlo hL) (fun h9 => kf h9 w p l e R s m args below meth c H locs ls hw hf hR hH hn hlo hL)
theorem rw_if_lt {M : MR} {d n0 n1 : Nat} (pc : Nat) {L : List (Nat × Value)} {st : List Value} {σ : PS} {Q : Option Value → PS → Prop} {x : Int32} {off : Int} (tgt : Nat) (hd : decode M.2.1 pc = .ok (.ifCond .lt off, 3)) (ht : (pc : Int) + off = (tgt : Int)) (kt : x < 0 → RW M d n0 n1 tgt L st σ Q) (kf : ¬ x < 0 → RW M d n0 n1 (pc + 3) L st σ Q) : RW M d n0 n1 pc L (.int x :: st) σ Q := by
  intro w p l e R s m args below meth c H locs ls hw hf hR hH hn hlo hL
  exact lv_if_lt hf.1 hf.2.1 hd ht (fun h9 => kt h9 w p l e R s m args below meth c H locs ls hw hf hR hH hn hlo hL) (fun h9 => kf h9 w p l e R s m args below meth c H locs ls hw hf hR hH hn hlo hL)
theorem rw_if_ge {M : MR} {d n0 n1 : Nat} (pc : Nat) {L : List (Nat × Value)} {st : List Value} {σ : PS} {Q : Option Value → PS → Prop} {x : Int32} {off : Int} (tgt : Nat) (hd : decode M.2.1 pc = .ok (.ifCond .ge off, 3)) (ht : (pc : Int) + off = (tgt : Int)) (kt : 0 ≤ x → RW M d n0 n1 tgt L st σ Q) (kf : ¬ 0 ≤ x → RW M d n0 n1 (pc + 3) L st σ Q) : RW M d n0 n1 pc L (.int x :: st) σ Q := by
  intro w p l e R s m args below meth c H locs ls hw hf hR hH hn hlo hL
  exact lv_if_ge hf.1 hf.2.1 hd ht (fun h9 => kt h9 w p l e R s m args below meth c H locs ls hw hf hR hH hn hlo hL) (fun h9 => kf h9 w p l e R s m args below meth c H locs ls hw hf hR hH hn hlo hL)
theorem rw_if_gt {M : MR} {d n0 n1 : Nat} (pc : Nat) {L : List (Nat × Value)} {st : List Value} {σ : PS} {Q : Option Value → PS → Prop} {x : Int32} {off : Int} (tgt : Nat) (hd : decode M.2.1 pc = .ok (.ifCond .gt off, 3)) (ht : (pc : Int) + off = (tgt : Int)) (kt : 0 < x → RW M d n0 n1 tgt L st σ Q) (kf : ¬ 0 < x → RW M d n0 n1 (pc + 3) L st σ Q) : RW M d n0 n1 pc L (.int x :: st) σ Q := by
  intro w p l e R s m args below meth c H locs ls hw hf hR hH hn hlo hL
  exact lv_if_gt hf.1 hf.2.1 hd ht (fun h9 => kt h9 w p l e R s m args below meth c H locs ls hw hf hR hH hn hlo hL) (fun h9 => kf h9 w p l e R s m args below meth c H locs ls hw hf hR hH hn hlo hL)
theorem rw_if_le {M : MR} {d n0 n1 : Nat} (pc : Nat) {L : List (Nat × Value)} {st : List Value} {σ : PS} {Q : Option Value → PS → Prop} {x : Int32} {off : Int} (tgt : Nat) (hd : decode M.2.1 pc = .ok (.ifCond .le off, 3)) (ht : (pc : Int) + off = (tgt : Int)) (kt : x ≤ 0 → RW M d n0 n1 tgt L st σ Q) (kf : ¬ x ≤ 0 → RW M d n0 n1 (pc + 3) L st σ Q) : RW M d n0 n1 pc L (.int x :: st) σ Q := by
  intro w p l e R s m args below meth c H locs ls hw hf hR hH hn hlo hL
  exact lv_if_le hf.1 hf.2.1 hd ht (fun h9 => kt h9 w p l e R s m args below meth c H locs ls hw hf hR hH hn hlo hL) (fun h9 => kf h9 w p l e R s m args below meth c H locs ls hw hf hR hH hn hlo hL)
theorem rw_icmp_eq {M : MR} {d n0 n1 : Nat} (pc : Nat) {L : List (Nat × Value)} {st : List Value} {σ : PS} {Q : Option Value → PS → Prop} {x y : Int32} {off : Int} (tgt : Nat) (hd : decode M.2.1 pc = .ok (.if_icmp .eq off, 3)) (ht : (pc : Int) + off = (tgt : Int)) (kt : x = y → RW M d n0 n1 tgt L st σ Q) (kf : ¬ x = y → RW M d n0 n1 (pc + 3) L st σ Q) : RW M d n0 n1 pc L (.int y :: .int x :: st) σ Q := by
  intro w p l e R s m args below meth c H locs ls hw hf hR hH hn hlo hL
  exact lv_icmp_eq hf.1 hf.2.1 hd ht (fun h9 => kt h9 w p l e R s m args below meth c H locs ls hw hf hR hH hn hlo hL) (fun h9 => kf h9 w p l e R s m args below meth c H locs ls hw hf hR hH hn hlo hL)
theorem rw_icmp_ne {M : MR} {d n0 n1 : Nat} (pc : Nat) {L : List (Nat × Value)} {st : List Value} {σ : PS} {Q : Option Value → PS → Prop} {x y : Int32} {off : Int} (tgt : Nat) (hd : decode M.2.1 pc = .ok (.if_icmp .ne off, 3)) (ht : (pc : Int) + off = (tgt : Int)) (kt : ¬ x = y → RW M d n0 n1 tgt L st σ Q) (kf : x = y → RW M d n0 n1 (pc + 3) L st σ Q) : RW M d n0 n1 pc L (.int y :: .int x :: st) σ Q := by
  intro w p l e R s m args below meth c H locs ls hw hf hR hH hn hlo hL
  exact lv_icmp_ne hf.1 hf.2.1 hd ht (fun h9 => kt h9 w p l e R s m args below meth c H locs ls hw hf hR hH hn hlo hL) (fun h9 => kf h9 w p l e R s m args below meth c H locs ls hw hf hR hH hn hlo hL)
theorem rw_icmp_lt {M : MR} {d n0 n1 : Nat} (pc : Nat) {L : List (Nat × Value)} {st : List Value} {σ : PS} {Q : Option Value → PS → Prop} {x y : Int32} {off : Int} (tgt : Nat) (hd : decode M.2.1 pc = .ok (.if_icmp .lt off, 3)) (ht : (pc : Int) + off = (tgt : Int)) (kt : x < y → RW M d n0 n1 tgt L st σ Q) (kf : ¬ x < y → RW M d n0 n1 (pc + 3) L st σ Q) : RW M d n0 n1 pc L (.int y :: .int x :: st) σ Q := by
  intro w p l e R s m args below meth c H locs ls hw hf hR hH hn hlo hL
  exact lv_icmp_lt hf.1 hf.2.1 hd ht (fun h9 => kt h9 w p l e R s m args below meth c H locs ls hw hf hR hH hn hlo hL) (fun h9 => kf h9 w p l e R s m args below meth c H locs ls hw hf hR hH hn hlo hL)
theorem rw_icmp_ge {M : MR} {d n0 n1 : Nat} (pc : Nat) {L : List (Nat × Value)} {st : List Value} {σ : PS} {Q : Option Value → PS → Prop} {x y : Int32} {off : Int} (tgt : Nat) (hd : decode M.2.1 pc = .ok (.if_icmp .ge off, 3)) (ht : (pc : Int) + off = (tgt : Int)) (kt : y ≤ x → RW M d n0 n1 tgt L st σ Q) (kf : ¬ y ≤ x → RW M d n0 n1 (pc + 3) L st σ Q) : RW M d n0 n1 pc L (.int y :: .int x :: st) σ Q := by
  intro w p l e R s m args below meth c H locs ls hw hf hR hH hn hlo hL
  exact lv_icmp_ge hf.1 hf.2.1 hd ht (fun h9 => kt h9 w p l e R s m args below meth c H locs ls hw hf hR hH hn hlo hL) (fun h9 => kf h9 w p l e R s m args below meth c H locs ls hw hf hR hH hn hlo hL)
theorem rw_icmp_gt {M : MR} {d n0 n1 : Nat} (pc : Nat) {L : List (Nat × Value)} {st : List Value} {σ : PS} {Q : Option Value → PS → Prop} {x y : Int32} {off : Int} (tgt : Nat) (hd : decode M.2.1 pc = .ok (.if_icmp .gt off, 3)) (ht : (pc : Int) + off = (tgt : Int)) (kt : y < x → RW M d n0 n1 tgt L st σ Q) (kf : ¬ y < x → RW M d n0 n1 (pc + 3) L st σ Q) : RW M d n0 n1 pc L (.int y :: .int x :: st) σ Q := by
  intro w p l e R s m args below meth c H locs ls hw hf hR hH hn hlo hL
  exact lv_icmp_gt hf.1 hf.2.1 hd ht (fun h9 => kt h9 w p l e R s m args below meth c H locs ls hw hf hR hH hn hlo hL) (fun h9 => kf h9 w p l e R s m args below meth c H locs ls hw hf hR hH hn hlo hL)
theorem rw_icmp_le {M : MR} {d n0 n1 : Nat} (pc : Nat) {L : List (Nat × Value)} {st : List Value} {σ : PS} {Q : Option Value → PS → Prop} {x y : Int32} {off : Int} (tgt : Nat) (hd : decode M.2.1 pc = .ok (.if_icmp .le off, 3)) (ht : (pc : Int) + off = (tgt : Int)) (kt : x ≤ y → RW M d n0 n1 tgt L st σ Q) (kf : ¬ x ≤ y → RW M d n0 n1 (pc + 3) L st σ Q) : RW M d n0 n1 pc L (.int y :: .int x :: st) σ Q := by
  intro w p l e R s m args below meth c H locs ls hw hf hR hH hn hlo hL
  exact lv_icmp_le hf.1 hf.2.1 hd ht (fun h9 => kt h9 w p l e R s m args below meth c H locs ls hw hf hR hH hn hlo hL) (fun h9 => kf h9 w p l e R s m args below meth c H locs ls hw hf hR hH hn hlo hL)
theorem rw_goto {M : MR} {d n0 n1 : Nat} (pc : Nat) {L : List (Nat × Value)} {st : List Value} {σ : PS} {Q : Option Value → PS → Prop} {off : Int} (tgt : Nat) (hd : decode M.2.1 pc = .ok (.goto off, 3)) (ht : (pc : Int) + off = (tgt : Int)) (k : RW M d n0 n1 tgt L st σ Q) : RW M d n0 n1 pc L st σ Q := by
  intro w p l e R s m args below meth c H locs ls hw hf hR hH hn hlo hL
  exact lv_goto hf.1 hf.2.1 hd ht (k w p l e R s m args below meth c H locs ls hw hf hR hH hn hlo hL)
theorem rw_tabOut {M : MR} {d n0 n1 : Nat} (pc : Nat) {L : List (Nat × Value)} {st : List Value} {σ : PS} {Q : Option Value → PS → Prop} {dflt lo hi : Int} {offs : Array Int} {len : Nat} {x : Int32} (tgt : Nat) (hd : decode M.2.1 pc = .ok (.tableswitch dflt lo hi offs, len)) (h : x.toInt < lo ∨ hi < x.toInt) (ht : (pc : Int) + dflt = (tgt : Int)) (k : RW M d n0 n1 tgt L st σ Q) : RW M d n0 n1 pc L (.int x :: st) σ Q := by
  intro w p l e R s m args below meth c H locs ls hw hf hR hH hn hlo hL
  exact lv_tableOut hf.1 hf.2.1 hd h ht (k w p l e R s m args below meth c H locs ls hw hf hR hH hn hlo hL)
theorem rw_tabIn {M : MR} {d n0 n1 : Nat} (pc : Nat) {L : List (Nat × Value)} {st : List Value} {σ : PS} {Q : Option Value → PS → Prop} {dflt lo hi : Int} {offs : Array Int} {len : Nat} {x : Int32} {off : Int} (tgt : Nat) (hd : decode M.2.1 pc = .ok (.tableswitch dflt lo hi offs, len)) (h1 : ¬ x.toInt < lo) (h2 : ¬ hi < x.toInt) (ho : offs[(x.toInt - lo).toNat]? = some off) (ht : (pc : Int) + off = (tgt : Int)) (k : RW M d n0 n1 tgt L st σ Q) : RW M d n0 n1 pc L (.int x :: st) σ Q := by
  intro w p l e R s m args below meth c H locs ls hw hf hR hH hn hlo hL
  exact lv_tableIn hf.1 hf.2.1 hd h1 h2 ho ht (k w p l e R s m args below meth c H locs ls hw hf hR hH hn hlo hL)
theorem rw_ldc {M : MR} {d n0 n1 : Nat} (pc : Nat) {L : List (Nat × Value)} {st : List Value} {σ : PS} {Q : Option Value → PS → Prop} {idx : Nat} {v : Int32} (hd : decode M.2.1 pc = .ok (.ldc idx, 2)) (hc : Cond.constant M.1.cls idx v ∈ WL) (k : RW M d n0 n1 (pc + 2) L (.int v :: st) σ Q) : RW M d n0 n1 pc L st σ Q := by
  intro w p l e R s m args below meth c H locs ls hw hf hR hH hn hlo hL
  exact lv_ldc hf.1 hf.2.1 hf.2.2.2.1 (hf.2.2.2.2.1 _ hc) hd (k w p l e R s m args below meth c H locs ls hw hf hR hH hn hlo hL)
theorem rw_ldcw {M : MR} {d n0 n1 : Nat} (pc : Nat) {L : List (Nat × Value)} {st : List Value} {σ : PS} {Q : Option Value → PS → Prop} {idx : Nat} {v : Int32} (hd : decode M.2.1 pc = .ok (.ldc_w idx, 3)) (hc : Cond.constant M.1.cls idx v ∈ WL) (k : RW M d n0 n1 (pc + 3) L (.int v :: st) σ Q) : RW M d n0 n1 pc L st σ Q := by
  intro w p l e R s m args below meth c H locs ls hw hf hR hH hn hlo hL
  exact lv_ldcw hf.1 hf.2.1 hf.2.2.2.1 (hf.2.2.2.2.1 _ hc) hd (k w p l e R s m args below meth c H locs ls hw hf hR hH hn hlo hL)
theorem rw_ldc2 {M : MR} {d n0 n1 : Nat} (pc : Nat) {L : List (Nat × Value)} {st : List Value} {σ : PS} {Q : Option Value → PS → Prop} {idx : Nat} {v : Int64} (hd : decode M.2.1 pc = .ok (.ldc2_w idx, 3)) (hc : Cond.constantLong M.1.cls idx v ∈ WL) (k : RW M d n0 n1 (pc + 3) L (.long v :: st) σ Q) : RW M d n0 n1 pc L st σ Q := by
  intro w p l e R s m args below meth c H locs ls hw hf hR hH hn hlo hL
  exact lv_ldc2 hf.1 hf.2.1 hf.2.2.2.1 (hf.2.2.2.2.1 _ hc) hd (k w p l e R s m args below meth c H locs ls hw hf hR hH hn hlo hL)
theorem rw_less {M : MR} {d n0 n1 : Nat} (pc : Nat) {L : List (Nat × Value)} {st : List Value} {σ : PS} {Q : Option Value → PS → Prop} {L2 : List (Nat × Value)} (hs : ∀ q ∈ L2, q ∈ L) (k : RW M d n0 n1 pc L2 st σ Q) : RW M d n0 n1 pc L st σ Q := by
  intro w p l e R s m args below meth c H locs ls hw hf hR hH hn hlo hL
  refine k w p l e R s m args below meth c H locs ls hw hf hR hH hn hlo (lv_less hL fun q hq => ?_)
  obtain ⟨x, hx, rfl⟩ := List.mem_map.mp hq
  exact List.mem_map.mpr ⟨x, hs x hx, rfl⟩
theorem rw_pick {M : MR} {d n0 n1 : Nat} (pc : Nat) {L : List (Nat × Value)} {st : List Value} {σ : PS} {Q : Option Value → PS → Prop} {L2 : List (Nat × Value)} (ks : List Nat) (hp : lv_pick L ks = L2) (k : RW M d n0 n1 pc L2 st σ Q) : RW M d n0 n1 pc L st σ Q := by
  refine rw_less pc (fun q hq => ?_) k
  rw [← hp] at hq
  obtain ⟨i, -, hi⟩ := List.mem_filterMap.mp hq
  exact List.mem_of_getElem? hi
theorem rw_iret {M : MR} {d n0 n1 : Nat} (pc : Nat) {L : List (Nat × Value)} {σ : PS} {Q : Option Value → PS → Prop} {v : Int32} (hd : decode M.2.1 pc = .ok (.ireturn, 1)) (hr : M.2.2.2 = some .int) (hz : σ.2.2 = n1) (hq : Q (some (.int v)) σ) : RW M d n0 n1 pc L [.int v] σ Q := by
  intro w p l e R s m args below meth c H locs ls hw hf hR hH hn hlo hL
  subst hz
  exact W.iret hf.1 hf.2.1 (by rw [hf.2.2.2.2.2.1, hr]) (fun t ht hW => ⟨some (.int v), σ, hq, rfl, rfl, by rw [ht]; exact hH⟩) hlo hd hf.2.2.2.2.2.2.1
theorem rw_lret {M : MR} {d n0 n1 : Nat} (pc : Nat) {L : List (Nat × Value)} {σ : PS} {Q : Option Value → PS → Prop} {v : Int64} (hd : decode M.2.1 pc = .ok (.lreturn, 1)) (hr : M.2.2.2 = some .long) (hz : σ.2.2 = n1) (hq : Q (some (.long v)) σ) : RW M d n0 n1 pc L [.long v] σ Q := by
  intro w p l e R s m args below meth c H locs ls hw hf hR hH hn hlo hL
  subst hz
  exact W.lret hf.1 hf.2.1 (by rw [hf.2.2.2.2.2.1, hr]) (fun t ht hW => ⟨some (.long v), σ, hq, rfl, rfl, by rw [ht]; exact hH⟩) hlo hd hf.2.2.2.2.2.2.1
theorem rw_zret {M : MR} {d n0 n1 : Nat} (pc : Nat) {L : List (Nat × Value)} {σ : PS} {Q : Option Value → PS → Prop} {v : Int32} {ty : FieldType} (hd : decode M.2.1 pc = .ok (.ireturn, 1)) (hr : M.2.2.2 = some ty) (hz : σ.2.2 = n1) (hb : narrow ty (.int v) = .int v) (hq : Q (some (.int v)) σ) : RW M d n0 n1 pc L [.int v] σ Q := by
  intro w p l e R s m args below meth c H locs ls hw hf hR hH hn hlo hL
  subst hz
  exact W.zret hf.1 hf.2.1 (by rw [hf.2.2.2.2.2.1, hr]) hb (fun t ht hW => ⟨some (.int v), σ, hq, rfl, rfl, by rw [ht]; exact hH⟩) hlo hd hf.2.2.2.2.2.2.1
theorem rw_vret {M : MR} {d n0 n1 : Nat} (pc : Nat) {L : List (Nat × Value)} {σ : PS} {Q : Option Value → PS → Prop} (hd : decode M.2.1 pc = .ok (.return_, 1)) (hr : M.2.2.2 = none) (hz : σ.2.2 = n1) (hq : Q none σ) : RW M d n0 n1 pc L [] σ Q := by
  intro w p l e R s m args below meth c H locs ls hw hf hR hH hn hlo hL
  subst hz
  exact W.vret hf.1 hf.2.1 (by rw [hf.2.2.2.2.2.1, hr]) (fun t ht hW => ⟨none, σ, hq, rfl, rfl, by rw [ht]; exact hH⟩) hlo hd hf.2.2.2.2.2.2.1
theorem rw_mono {M : MR} {d n0 n1 : Nat} (pc : Nat) {L : List (Nat × Value)} {st : List Value} {σ : PS} {Q : Option Value → PS → Prop} {Q2 : Option Value → PS → Prop} (hq : ∀ r σ2, Q2 r σ2 → Q r σ2) (k : RW M d n0 n1 pc L st σ Q2) : RW M d n0 n1 pc L st σ Q := by
  intro w p l e R s m args below meth c H locs ls hw hf hR hH hn hlo hL
  intro T hT X
  obtain ⟨t, h1, o, h2, h3, ⟨r, σ2, h4, h5, h6, h7⟩, h8⟩ := k w p l e R s m args below meth c H locs ls hw hf hR hH hn hlo hL T hT X
  exact ⟨t, h1, o, h2, h3, ⟨r, σ2, hq r σ2 h4, h5, h6, h7⟩, h8⟩
