/-! ===== fitting, room, at ===== -/
def fitB (T : Txt) (S : St) (g : Nat) : Nat := bs (fits T S g) T.nS
theorem c_sundaysFitting {A : Abs} {μ : Mem} (hA : okA A) (h : CInv A μ) {g : Nat} (hg : g < A.T.nG) : fX10_sundaysFitting (nI g) μ = some (nI (fitB A.T A.S g)) := by
  have s4 := hA.T.s4
  unfold fX10_sundaysFitting
  refine lbits (L := fun n a i => fX10_sundaysFitting_4 (nI g) μ (fun y3 => some y3) n a i) (K := fun y => some y) A.T.nS (fits A.T A.S g) (by omega) ?_ ?_ ?_
  · intro n i m hi hm hp
    unfold fits at hp
    simp only [Bool.and_eq_true, Bool.not_eq_true', decide_eq_true_eq] at hp
    rw [fX10_sundaysFitting_4, h.T.nS, if_pos (nI_lt hi (by omega)), c_isSold h.S (by omega), bind_s, hp.1, if_neg (by decide), c_isLongEnough h.T hA.T hg hi, bind_s, if_pos (by simp [hp.2]), nm_ap, nI_shl i (by omega), nI_or, nI_1]
  · intro n i m hi hm hp
    unfold fits at hp
    rw [fX10_sundaysFitting_4, h.T.nS, if_pos (nI_lt hi (by omega)), c_isSold h.S (by omega), bind_s]
    cases hd : A.S.sd i with
    | true => rw [if_pos rfl, nI_1]
    | false =>
      rw [hd] at hp
      simp only [Bool.not_false, Bool.true_and] at hp
      rw [if_neg (by decide), c_isLongEnough h.T hA.T hg hi, bind_s, hp, if_neg (by decide), nI_1]
  · intro n m hm
    rw [fX10_sundaysFitting_4, h.T.nS, if_neg (nI_nlt (by omega) (by omega))]
theorem r_fitBits {v : Nat} {T : Txt} {S : St} {μ : Mem} (h : rX v T μ) (hS : rS 277 0 S μ) {g : Nat} (hg : g < T.nG) : fX11_fitBits (nI g) μ = some (nI (fitB T S g)) := by
  have s4 := h.2.2.1.s4
  have v1 := h.2.1
  unfold fX11_fitBits
  refine lbits (L := fun n a i => fX11_fitBits_4 (nI g) μ (fun y3 => some y3) n a i) (K := fun y => some y) T.nS (fits T S g) (by omega) ?_ ?_ ?_
  · intro n i m hi hm hp
    rw [fX11_fitBits_4, h.1, if_pos (inbN (by omega) (by omega)), nI_clamp (by omega), h.2.2.2.nS, if_pos (nI_lt hi (by omega)), r_doesFit h hS hg hi, bind_s, if_pos hp, nm_ap, nI_shl i (by omega), nI_or, nI_1]
  · intro n i m hi hm hp
    rw [fX11_fitBits_4, h.1, if_pos (inbN (by omega) (by omega)), nI_clamp (by omega), h.2.2.2.nS, if_pos (nI_lt hi (by omega)), r_doesFit h hS hg hi, bind_s, if_neg (by rw [hp]; decide), nI_1]
  · intro n m hm
    rw [fX11_fitBits_4, h.1, if_pos (inbN (by omega) (by omega)), nI_clamp (by omega), h.2.2.2.nS, if_neg (nI_nlt (by omega) (by omega))]
theorem sp_fitting : st_fitting Inv := by
  intro μ a1 ⟨A, hA, hc, hr⟩
  have g7 := hA.T.g7
  have hx := hr.rX hA
  rcases pk_ix a1 (n := A.T.nG) (by omega) with h | h | ⟨g, hg, rfl⟩
  · exact qpm hA hc hr (-1) (by unfold fX10_fitting; rw [c_isGuest_no hc (Or.inl h) g7, bind_s, if_neg (by decide)]) ⟨μ, by unfold fX11_fitting; rw [r_isGuest_no hx (Or.inl h), bind_s, if_neg (by decide)]⟩ (frX11_fitting a1 μ) (by decide) (by decide)
  · exact qpm hA hc hr (-1) (by unfold fX10_fitting; rw [c_isGuest_no hc (Or.inr h) g7, bind_s, if_neg (by decide)]) ⟨μ, by unfold fX11_fitting; rw [r_isGuest_no hx (Or.inr h), bind_s, if_neg (by decide)]⟩ (frX11_fitting a1 μ) (by decide) (by decide)
  · obtain ⟨m, e1, e2, e3, _⟩ := r_copies hA hr
    refine qpm hA hc hr (nI (fitB A.T A.S g)) ?_ ⟨m, ?_⟩ (frX11_fitting _ μ) (by decide) (by decide)
    · unfold fX10_fitting; rw [c_isGuest_yes hc hg g7, bind_s, if_pos rfl, c_sundaysFitting hA hc hg, bind_s]
    · unfold fX11_fitting; rw [r_isGuest_yes hx hg, bind_s, if_pos rfl, e1, bind_s, r_fitBits (e3.rX hA) e2 hg, bind_s]
def outS (S : St) (g : Nat) : St := St.mk (fun i => if i = g then 9 else S.wh i) S.re S.dd S.wn S.sd S.wk S.mo
theorem outS_wh (S : St) (g i : Nat) : (outS S g).wh i = if i = g then 9 else S.wh i := rfl
theorem okS.out {T : Txt} {S : St} (h : okS T S) (g : Nat) : okS T (outS S g) := by
  refine ⟨?_, ?_, h.re, h.wn, h.dd, h.sd⟩
  · intro i
    rw [outS_wh]
    split
    · exact Or.inl rfl
    · exact h.wh i
  · intro i o e l
    rw [outS_wh, outS_wh] at e
    rw [outS_wh] at l
    by_cases c : i = g
    · rw [if_pos c] at l; omega
    · rw [if_neg c] at l e
      by_cases d : o = g
      · rw [if_pos d] at e; omega
      · rw [if_neg d] at e; exact h.cl i o e l
theorem rS.out {S : St} {μ : Mem} (h : rS 277 0 S μ) {g : Nat} (hg : g < 7) : rS 277 0 (outS S g) (wI μ 277 g (-2)) := by
  have e : ∀ k, k ≠ g → (wI μ 277 g (-2)).1 277 k = μ.1 277 k := fun k hk => by rw [wI_i, if_neg (by omega)]
  refine ⟨?_, ?_, ?_, ?_, ?_, ?_, ?_⟩
  · intro i hi
    rw [outS_wh, Nat.zero_add]
    by_cases c : i = g
    · rw [if_pos c, wI_i, if_pos ⟨rfl, c⟩]; rfl
    · rw [if_neg c, e _ c]; have := h.wh i hi; rwa [Nat.zero_add] at this
  · intro i hi; rw [e _ (by omega)]; exact h.re i hi
  · intro i hi; rw [e _ (by omega)]; exact h.dd i hi
  · intro i hi; rw [e _ (by omega)]; exact h.wn i hi
  · intro i hi; rw [e _ (by omega)]; exact h.sd i hi
  · rw [e _ (by omega)]; exact h.wk
  · rw [e _ (by omega)]; exact h.mo
theorem clash_self (T : Txt) (g : Nat) : clash T g g = false := by unfold clash; simp
theorem inB_out_cl {T : Txt} {S : St} {g s : Nat} (hs : s < 9) : inB (outS S g) s &&& clB T g = inB S s &&& clB T g := by
  apply Nat.eq_of_testBit_eq
  intro i
  rw [Nat.testBit_and, Nat.testBit_and]
  unfold inB clB
  rw [bs_bit, bs_bit, bs_bit]
  by_cases c : i = g
  · subst c; rw [clash_self]; simp
  · rw [outS_wh, if_neg c]
theorem mayIn_out {T : Txt} {S : St} {g s : Nat} (hs : s < 9) : mayIn T (outS S g) g s = mayIn T S g s := by
  unfold mayIn
  rw [inB_out_cl hs]
  rfl
theorem sp_room : st_room Inv := by
  intro μ a1 ⟨A, hA, hc, hr⟩
  have g7 := hA.T.g7
  have s4 := hA.T.s4
  have hx := hr.rX hA
  rcases pk_ix a1 (n := A.T.nG) (by omega) with h | h | ⟨g, hg, rfl⟩
  · exact qpm hA hc hr (-1) (by unfold fX10_room; rw [c_isGuest_no hc (Or.inl h) g7, bind_s, if_neg (by decide)]) ⟨μ, by unfold fX11_room; rw [r_isGuest_no hx (Or.inl h), bind_s, if_neg (by decide)]⟩ (frX11_room a1 μ) (by decide) (by decide)
  · exact qpm hA hc hr (-1) (by unfold fX10_room; rw [c_isGuest_no hc (Or.inr h) g7, bind_s, if_neg (by decide)]) ⟨μ, by unfold fX11_room; rw [r_isGuest_no hx (Or.inr h), bind_s, if_neg (by decide)]⟩ (frX11_room a1 μ) (by decide) (by decide)
  · obtain ⟨m, e1, e2, e3, _⟩ := r_copies hA hr
    refine qpm hA hc hr (nI (bs (mayIn A.T A.S g) A.T.nS)) ?_ ⟨wI m 277 g (-2), ?_⟩ (frX11_room _ μ) (by decide) (by decide)
    · unfold fX10_room; rw [c_isGuest_yes hc hg g7, bind_s, if_pos rfl]
      refine lbits (L := fun n a i => fX10_room_14 (nI g) μ (fun y3 => some y3) n a i) (K := fun y => some y) A.T.nS (mayIn A.T A.S g) (by omega) ?_ ?_ ?_
      · intro n i m hi hm hp
        rw [fX10_room_14, hc.T.nS, if_pos (nI_lt hi (by omega)), c_couldGoIn0 hA hc hg hi, bind_s, if_pos hp, nm_ap, nI_shl i (by omega), nI_or, nI_1]
      · intro n i m hi hm hp
        rw [fX10_room_14, hc.T.nS, if_pos (nI_lt hi (by omega)), c_couldGoIn0 hA hc hg hi, bind_s, if_neg (by rw [hp]; decide), nI_1]
      · intro n m hm
        rw [fX10_room_14, hc.T.nS, if_neg (nI_nlt (by omega) (by omega))]
    · have x2 : rX A.lv A.T (wI m 277 g (-2)) := (e3.rX hA).sm (by rw [wI_i, if_neg (by omega)]) (Sm.wI (by omega))
      have s2 := e2.out (g := g) (by omega)
      have o2 := hA.S.out g
      have v1 := hA.lv
      unfold fX11_room; rw [r_isGuest_yes hx hg, bind_s, if_pos rfl, e1, bind_s, if_pos (inbN (by omega) (by omega)), nI_clamp (by omega), nm_ap]
      refine lbits (L := fun n a i => fX11_room_26 (nI g) (wI m 277 g (-2)) (fun y6 => some (y6, wI m 277 g (-2))) n a i) (K := fun y => some (y, wI m 277 g (-2))) A.T.nS (mayIn A.T A.S g) (by omega) ?_ ?_ ?_
      · intro n i k hi hm hp
        rw [fX11_room_26, x2.1, if_pos (inbN (by omega) (by omega)), nI_clamp (by omega), x2.2.2.2.nS, if_pos (nI_lt hi (by omega)), r_mayGoIn x2 s2 o2 hg hi, mayIn_out (by omega), bind_s, if_pos hp, nm_ap, nI_shl i (by omega), nI_or, nI_1]
      · intro n i k hi hm hp
        rw [fX11_room_26, x2.1, if_pos (inbN (by omega) (by omega)), nI_clamp (by omega), x2.2.2.2.nS, if_pos (nI_lt hi (by omega)), r_mayGoIn x2 s2 o2 hg hi, mayIn_out (by omega), bind_s, if_neg (by rw [hp]; decide), nI_1]
      · intro n k hm
        rw [fX11_room_26, x2.1, if_pos (inbN (by omega) (by omega)), nI_clamp (by omega), x2.2.2.2.nS, if_neg (nI_nlt (by omega) (by omega))]
