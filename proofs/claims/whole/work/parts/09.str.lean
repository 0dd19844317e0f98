/-! ===== the signs' text ===== -/
def idxS (c : Int32) : Int32 := if c = 59 then 0 else if c = 61 then 1 else if c = 43 then 2 else if c = 45 then 3 else if c = 42 then 4 else if c = 47 then 5 else if c = 60 then 6 else if c = 40 then 7 else if c = 41 then 8 else -1
theorem rw_ldcS {M : MR} {d n0 n1 : Nat} (pc : Nat) {L : List (Nat × Value)} {st : List Value} {σ : PS} {Q : Option Value → PS → Prop} (hd : decode M.2.1 pc = .ok (.ldc 76, 2)) (hM : M.1.cls = RX8) (k : RW M d n0 n1 (pc + 2) L (.ref 1003 :: st) σ Q) : RW M d n0 n1 pc L st σ Q := by
  intro w p l e R s m args below meth c H locs ls hw hf hR hH hn hlo hL
  exact va_ldcS hf.1 hf.2.1 (by rw [← hM]; exact hf.2.2.2.1) hf.2.2.2.2.2.2.2.2.2.2.2.2.1 hd (k w p l e R s m args below meth c H locs ls hw hf hR hH hn hlo hL)
theorem rw_idxS {M : MR} {d n0 n1 : Nat} (pc : Nat) {L : List (Nat × Value)} {st : List Value} {σ : PS} {Q : Option Value → PS → Prop} {c : Int32} (hd : decode M.2.1 pc = .ok (.invokevirtual 78, 3)) (hM : M.1.cls = RX8) (hdd : 6 < d) (hs : (st.map fun v => v.category).sum ≤ 8) (k : RW M d n0 n1 (pc + 3) L (.int (idxS c) :: st) σ Q) : RW M d n0 n1 pc L (.int c :: .ref 1003 :: st) σ Q := sorry
