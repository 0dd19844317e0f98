/-! ===== change ===== -/
theorem cl_dif (x p c : Nat) : (x ^^^ (x &&& p)) &&& c = (c &&& x) ^^^ ((c &&& x) &&& p) := by
  apply Nat.eq_of_testBit_eq
  intro i
  simp only [Nat.testBit_and, Nat.testBit_xor]
  cases x.testBit i <;> cases p.testBit i <;> cases c.testBit i <;> rfl
def mayX (T : Txt) (S : St) (g s o : Nat) : Bool := !S.dd g && (fits T S g s && decide ((clB T g &&& inB S s) ^^^ ((clB T g &&& inB S s) &&& 2 ^ o) = 0))
theorem mayX_1 {T : Txt} {S : St} {g s o : Nat} (ho : o < 7) (hs : s < 9) : mayIn T (outS (outS S g) o) g s = mayX T S g s o := by
  unfold mayIn mayX
  rw [inB_out ho hs, cl_dif, Nat.and_comm (clB T g) (inB (outS S g) s), inB_out_cl hs, Nat.and_comm (inB S s) (clB T g)]
  rfl
theorem mayX_2 {T : Txt} {S : St} {g s o : Nat} (hg : g < 7) (hs : s < 9) : mayIn T (outS (outS S g) o) o s = mayX T S o s g := by
  unfold mayIn mayX
  rw [inB_out_cl hs, inB_out hg hs, cl_dif]
  rfl
theorem sp_change : st_change Inv := by
  intro μ a1 a2 ⟨A, hA, hc, hr⟩
  have g7 := hA.T.g7
  have s4 := hA.T.s4
  have hx := hr.rX hA
  have fr := frX11_change a1 a2 μ
  rcases pk_ix a1 (n := A.T.nG) (by omega) with h | h | ⟨g, hg, rfl⟩
  · exact qpm hA hc hr (-1) (by unfold fX10_change; rw [c_isGuest_no hc (Or.inl h) g7, bind_s, if_neg (by decide)]) ⟨μ, by unfold fX11_change; rw [r_isGuest_no hx (Or.inl h), bind_s, if_neg (by decide)]⟩ fr (by decide) (by decide)
  · exact qpm hA hc hr (-1) (by unfold fX10_change; rw [c_isGuest_no hc (Or.inr h) g7, bind_s, if_neg (by decide)]) ⟨μ, by unfold fX11_change; rw [r_isGuest_no hx (Or.inr h), bind_s, if_neg (by decide)]⟩ fr (by decide) (by decide)
  rcases pk_ix a2 (n := A.T.nG) (by omega) with h | h | ⟨o, ho, rfl⟩
  · exact qpm hA hc hr (-1) (by unfold fX10_change; rw [c_isGuest_yes hc hg g7, bind_s, if_pos rfl, c_isGuest_no hc (Or.inl h) g7, bind_s, if_neg (by decide)]) ⟨μ, by unfold fX11_change; rw [r_isGuest_yes hx hg, bind_s, if_pos rfl, r_isGuest_no hx (Or.inl h), bind_s, if_neg (by decide)]⟩ fr (by decide) (by decide)
  · exact qpm hA hc hr (-1) (by unfold fX10_change; rw [c_isGuest_yes hc hg g7, bind_s, if_pos rfl, c_isGuest_no hc (Or.inr h) g7, bind_s, if_neg (by decide)]) ⟨μ, by unfold fX11_change; rw [r_isGuest_yes hx hg, bind_s, if_pos rfl, r_isGuest_no hx (Or.inr h), bind_s, if_neg (by decide)]⟩ fr (by decide) (by decide)
  have wg := hA.S.w9 hA.T g
  have wo := hA.S.w9 hA.T o
  have hbg : inb (nI g) 31 := inbN (by omega) (by omega)
  have hcg : (nI g).toNatClampNeg = g := nI_clamp (by omega)
  have hbo : inb (nI o) 31 := inbN (by omega) (by omega)
  have hco : (nI o).toNatClampNeg = o := nI_clamp (by omega)
  have eg : μ.1 276 g = whI (A.S.wh g) := by have := hr.S.wh g (by omega); rwa [Nat.zero_add] at this
  have eo : μ.1 276 o = whI (A.S.wh o) := by have := hr.S.wh o (by omega); rwa [Nat.zero_add] at this
  have F : ∀ X, fX10_change (nI g) (nI o) μ = X ↔ (if whI (A.S.wh g) = -2 then some (-1) else if whI (A.S.wh o) = -2 then some (-1) else if whI (A.S.wh g) = whI (A.S.wh o) then some (-1) else (fX10_couldGoIn (nI g) (whI (A.S.wh o)) ((1 : Int32) <<< (nI o &&& 31)) μ).bind fun q5 => if q5 = true then (fX10_couldGoIn (nI o) (whI (A.S.wh g)) ((1 : Int32) <<< (nI g &&& 31)) μ).bind fun q6 => if q6 = true then some 1 else some 0 else some 0) = X := by
    intro X
    unfold fX10_change
    rw [c_isGuest_yes hc hg g7, bind_s, if_pos rfl, c_isGuest_yes hc ho g7, bind_s, if_pos rfl, c_whereIs hc.S (by omega) wg, bind_s, c_whereIs hc.S (by omega) wo, bind_s]
  have G : ∀ X, fX11_change (nI g) (nI o) μ = X ↔ (if whI (A.S.wh g) < 0 then some (-1, μ) else if whI (A.S.wh o) < 0 then some (-1, μ) else if whI (A.S.wh g) = whI (A.S.wh o) then some (-1, μ) else (fX11_copies μ).bind fun q3 => (fX11_mayGoIn (nI g) ((wI (wI q3 277 g (-2)) 277 o (-2)).1 276 o) (wI (wI q3 277 g (-2)) 277 o (-2))).bind fun q6 => if q6 = true then (fX11_mayGoIn (nI o) ((wI (wI q3 277 g (-2)) 277 o (-2)).1 276 g) (wI (wI q3 277 g (-2)) 277 o (-2))).bind fun q7 => if q7 = true then some (1, wI (wI q3 277 g (-2)) 277 o (-2)) else some (0, wI (wI q3 277 g (-2)) 277 o (-2)) else some (0, wI (wI q3 277 g (-2)) 277 o (-2))) = X := by
    intro X
    unfold fX11_change
    rw [r_isGuest_yes hx hg, bind_s, if_pos rfl, r_isGuest_yes hx ho, bind_s, if_pos rfl]
    simp only [if_pos hbg, if_pos hbo, hcg, hco, nm_ap, eg, eo]
  by_cases c1 : A.S.wh g = 9
  · exact qpm hA hc hr (-1) (by rw [F, if_pos ((whI_m2 (by omega)).2 c1)]) ⟨μ, by rw [G, if_pos ((whI_neg (by omega)).2 c1)]⟩ fr (by decide) (by decide)
  by_cases c2 : A.S.wh o = 9
  · exact qpm hA hc hr (-1) (by rw [F, if_neg (fun q => c1 ((whI_m2 (by omega)).1 q)), if_pos ((whI_m2 (by omega)).2 c2)]) ⟨μ, by rw [G, if_neg (fun q => c1 ((whI_neg (by omega)).1 q)), if_pos ((whI_neg (by omega)).2 c2)]⟩ fr (by decide) (by decide)
  have vg : whI (A.S.wh g) = nI (A.S.wh g) := by unfold whI; rw [if_pos (by omega)]
  have vo : whI (A.S.wh o) = nI (A.S.wh o) := by unfold whI; rw [if_pos (by omega)]
  by_cases c3 : A.S.wh g = A.S.wh o
  · exact qpm hA hc hr (-1) (by rw [F, if_neg (fun q => c1 ((whI_m2 (by omega)).1 q)), if_neg (fun q => c2 ((whI_m2 (by omega)).1 q)), if_pos (by rw [c3])]) ⟨μ, by rw [G, if_neg (fun q => c1 ((whI_neg (by omega)).1 q)), if_neg (fun q => c2 ((whI_neg (by omega)).1 q)), if_pos (by rw [c3])]⟩ fr (by decide) (by decide)
  have ng : A.S.wh g < A.T.nS := (hA.S.wh g).elim (fun e => absurd e c1) (fun e => e.1)
  have no : A.S.wh o < A.T.nS := (hA.S.wh o).elim (fun e => absurd e c2) (fun e => e.1)
  have c3' : ¬ whI (A.S.wh g) = whI (A.S.wh o) := fun q => c3 (by rw [vg, vo] at q; exact (nI_eq (by omega) (by omega)).1 q)
  obtain ⟨m, e1, e2, e3, _⟩ := r_copies hA hr
  have s2 := (e2.out (g := g) (by omega)).out (g := o) (by omega)
  have o2 := (hA.S.out g).out o
  have x2 : rX A.lv A.T (wI (wI m 277 g (-2)) 277 o (-2)) := ((e3.rX hA).sm (by rw [wI_i, if_neg (by omega)]) (Sm.wI (by omega))).sm (by rw [wI_i, if_neg (by omega)]) (Sm.wI (by omega))
  have fg : (wI (wI m 277 g (-2)) 277 o (-2)).1 276 g = nI (A.S.wh g) := by
    rw [wI_i, if_neg (by omega), wI_i, if_neg (by omega), ← vg]; have := e3.S.wh g (by omega); rwa [Nat.zero_add] at this
  have fo : (wI (wI m 277 g (-2)) 277 o (-2)).1 276 o = nI (A.S.wh o) := by
    rw [wI_i, if_neg (by omega), wI_i, if_neg (by omega), ← vo]; have := e3.S.wh o (by omega); rwa [Nat.zero_add] at this
  have p1 : fX10_couldGoIn (nI g) (nI (A.S.wh o)) (nI (2 ^ o)) μ = some (mayX A.T A.S g (A.S.wh o) o) := c_couldGoIn hA hc hg no
  have p2 : fX10_couldGoIn (nI o) (nI (A.S.wh g)) (nI (2 ^ g)) μ = some (mayX A.T A.S o (A.S.wh g) g) := c_couldGoIn hA hc ho ng
  have q1 := r_mayGoIn x2 s2 o2 hg no
  have q2 := r_mayGoIn x2 s2 o2 ho ng
  rw [mayX_1 (by omega) (by omega)] at q1
  rw [mayX_2 (by omega) (by omega)] at q2
  refine qpm hA hc hr (if mayX A.T A.S g (A.S.wh o) o = true then (if mayX A.T A.S o (A.S.wh g) g = true then 1 else 0) else 0) ?_ ⟨wI (wI m 277 g (-2)) 277 o (-2), ?_⟩ fr (by decide) (by decide)
  · rw [F, if_neg (fun q => c1 ((whI_m2 (by omega)).1 q)), if_neg (fun q => c2 ((whI_m2 (by omega)).1 q)), if_neg c3', vg, vo, nI_shl o (by omega), nI_shl g (by omega), p1, bind_s, p2, bind_s]
    split
    · split <;> rfl
    · rfl
  · rw [G, if_neg (fun q => c1 ((whI_neg (by omega)).1 q)), if_neg (fun q => c2 ((whI_neg (by omega)).1 q)), if_neg c3', e1, bind_s, fg, fo, q1, bind_s, q2, bind_s]
    split
    · split <;> rfl
    · rfl
