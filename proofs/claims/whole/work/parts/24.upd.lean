/-! ===== what is left when one thing changes ===== -/
theorem CInv.clue {A : Abs} {μ μ' : Mem} (h : CInv A μ) {n : Nat} {x : Nat → Nat} {y : Nat → Bool} (k : Ag (fun a j => cP a j ∧ ¬ (196 ≤ a ∧ a ≤ 198)) μ μ') (ncn : μ'.1 196 0 = nI n) (nch : ∀ i, i < n → μ'.1 197 i = nI (x i)) (nct : ∀ i, i < n → μ'.1 198 i = b2i (y i)) : CInv (Abs.mk A.T A.S A.k A.hi A.he n x y A.tn A.tb A.pl A.lv) μ' := by
  have sm : ∀ lo hi, (∀ a j, lo ≤ a → a ≤ hi → cP a j ∧ ¬ (196 ≤ a ∧ a ≤ 198)) → Sm lo hi μ μ' := fun lo hi hp a j h1 h2 => k a j (hp a j h1 h2)
  refine ⟨?_, ?_, ?_, ?_, ?_, ?_, ?_, ?_, ?_, ncn, nch, nct, ?_⟩
  · rw [(k 1 1 (by unfold cP; omega)).1]; exact h.tn
  · intro j hj; rw [(k 2 j (by unfold cP; omega)).1]; exact h.tb j hj
  · rw [(k 3 1 (by unfold cP; omega)).1]; exact h.pl
  · exact h.T.sm (sm _ _ (by intro a j h1 h2; unfold cP; omega))
  · exact h.S.sm (sm _ _ (by intro a j h1 h2; unfold cP; omega))
  · rw [(k 17 0 (by unfold cP; omega)).1]; exact h.hn
  · obtain ⟨p, h1, h2, h3⟩ := h.hi
    refine ⟨p, h1, ?_, fun i hi => (h3 i hi).sm (sm _ _ (by intro a j h1 h2; unfold cP; omega))⟩
    rw [(k 17 2 (by unfold cP; omega)).1]; exact h2
  · rw [(k 0 11 (by unfold cP; omega)).1]; exact h.hh
  · intro i s hi hs; exact (h.he i s hi hs).sm (sm _ _ (by intro a j h1 h2; unfold cP; omega))
  · intro w hw; rw [(k 8 w (by unfold cP; omega)).2]; exact h.ws w hw
theorem RInv.clue {A : Abs} {μ μ' : Mem} (h : RInv A μ) {n : Nat} {x : Nat → Nat} {y : Nat → Bool} (k : Ag (fun a j => rP a j ∧ ¬ (a = 243 ∧ j = 62) ∧ a ≠ 285 ∧ a ≠ 286) μ μ') (ncn : μ'.1 243 62 = nI n) (nch : ∀ i, i < n → μ'.1 285 i = nI (x i)) (nct : ∀ i, i < n → μ'.1 286 i = b2i (y i)) : RInv (Abs.mk A.T A.S A.k A.hi A.he n x y A.tn A.tb A.pl A.lv) μ' := by
  have sm : ∀ lo hi, (∀ a j, lo ≤ a → a ≤ hi → rP a j ∧ ¬ (a = 243 ∧ j = 62) ∧ a ≠ 285 ∧ a ≠ 286) → Sm lo hi μ μ' := fun lo hi hp a j h1 h2 => k a j (hp a j h1 h2)
  refine ⟨?_, ?_, ?_, ?_, ?_, ?_, ?_, ?_, ?_, ?_, ncn, nch, nct, ?_⟩
  · rw [(k 243 2 (by unfold rP; omega)).1]; exact h.tn
  · intro j hj; rw [(k 244 j (by unfold rP; omega)).1]; exact h.tb j hj
  · rw [(k 243 17 (by unfold rP; omega)).1]; exact h.pl
  · rw [(k 243 18 (by unfold rP; omega)).1]; exact h.lv
  · exact h.T.sm (sm _ _ (by intro a j h1 h2; unfold rP; omega))
  · exact h.S.sm (sm _ _ (by intro a j h1 h2; unfold rP; omega))
  · rw [(k 243 56 (by unfold rP; omega)).1]; exact h.hn
  · intro i hi; exact (h.hi i hi).sm (sm _ _ (by intro a j h1 h2; unfold rP; omega))
  · intro i hi; rw [(k 287 i (by unfold rP; omega)).1]; exact h.hh i hi
  · intro i s hi hs; exact (h.he i s hi hs).sm (sm _ _ (by intro a j h1 h2; unfold rP; omega))
  · intro w hw; rw [(k 250 w (by unfold rP; omega)).2]; exact h.ws w hw
theorem CInv.go {A : Abs} {μ μ' : Mem} (h : CInv A μ) {S : St} {n : Nat} {x : Nat → St} (k : Ag (fun a j => cP a j ∧ ¬ (9 ≤ a ∧ a ≤ 12) ∧ ¬ (17 ≤ a ∧ a ≤ 178)) μ μ') (nS : cS 9 S μ') (nhn : μ'.1 17 0 = nI n) (nhi : ∃ p, p < 40 ∧ μ'.1 17 2 = nI p ∧ ∀ i, i < n → cS (19 + 4 * ((p + 40 - n + i) % 40)) (x i) μ') : CInv (Abs.mk A.T S n x A.he A.cl A.ch A.ct A.tn A.tb A.pl A.lv) μ' := by
  have sm : ∀ lo hi, (∀ a j, lo ≤ a → a ≤ hi → cP a j ∧ ¬ (9 ≤ a ∧ a ≤ 12) ∧ ¬ (17 ≤ a ∧ a ≤ 178)) → Sm lo hi μ μ' := fun lo hi hp a j h1 h2 => k a j (hp a j h1 h2)
  refine ⟨?_, ?_, ?_, ?_, nS, nhn, nhi, ?_, ?_, ?_, ?_, ?_, ?_⟩
  · rw [(k 1 1 (by unfold cP; omega)).1]; exact h.tn
  · intro j hj; rw [(k 2 j (by unfold cP; omega)).1]; exact h.tb j hj
  · rw [(k 3 1 (by unfold cP; omega)).1]; exact h.pl
  · exact h.T.sm (sm _ _ (by intro a j h1 h2; unfold cP; omega))
  · rw [(k 0 11 (by unfold cP; omega)).1]; exact h.hh
  · intro i s hi hs; exact (h.he i s hi hs).sm (sm _ _ (by intro a j h1 h2; unfold cP; omega))
  · rw [(k 196 0 (by unfold cP; omega)).1]; exact h.cn
  · intro i hi; rw [(k 197 i (by unfold cP; omega)).1]; exact h.ch i hi
  · intro i hi; rw [(k 198 i (by unfold cP; omega)).1]; exact h.ct i hi
  · intro w hw; rw [(k 8 w (by unfold cP; omega)).2]; exact h.ws w hw
theorem RInv.go {A : Abs} {μ μ' : Mem} (h : RInv A μ) {S : St} {n : Nat} {x : Nat → St} (k : Ag (fun a j => rP a j ∧ ¬ (a = 243 ∧ j = 56) ∧ a ≠ 276 ∧ a ≠ 280) μ μ') (nS : rS 276 0 S μ') (nhn : μ'.1 243 56 = nI n) (nhi : ∀ i, i < n → rS 280 (31 * i) (x i) μ') : RInv (Abs.mk A.T S n x A.he A.cl A.ch A.ct A.tn A.tb A.pl A.lv) μ' := by
  have sm : ∀ lo hi, (∀ a j, lo ≤ a → a ≤ hi → rP a j ∧ ¬ (a = 243 ∧ j = 56) ∧ a ≠ 276 ∧ a ≠ 280) → Sm lo hi μ μ' := fun lo hi hp a j h1 h2 => k a j (hp a j h1 h2)
  refine ⟨?_, ?_, ?_, ?_, ?_, nS, nhn, nhi, ?_, ?_, ?_, ?_, ?_, ?_⟩
  · rw [(k 243 2 (by unfold rP; omega)).1]; exact h.tn
  · intro j hj; rw [(k 244 j (by unfold rP; omega)).1]; exact h.tb j hj
  · rw [(k 243 17 (by unfold rP; omega)).1]; exact h.pl
  · rw [(k 243 18 (by unfold rP; omega)).1]; exact h.lv
  · exact h.T.sm (sm _ _ (by intro a j h1 h2; unfold rP; omega))
  · intro i hi; rw [(k 287 i (by unfold rP; omega)).1]; exact h.hh i hi
  · intro i s hi hs; exact (h.he i s hi hs).sm (sm _ _ (by intro a j h1 h2; unfold rP; omega))
  · rw [(k 243 62 (by unfold rP; omega)).1]; exact h.cn
  · intro i hi; rw [(k 285 i (by unfold rP; omega)).1]; exact h.ch i hi
  · intro i hi; rw [(k 286 i (by unfold rP; omega)).1]; exact h.ct i hi
  · intro w hw; rw [(k 250 w (by unfold rP; omega)).2]; exact h.ws w hw
theorem CInv.hold {A : Abs} {μ μ' : Mem} (h : CInv A μ) {x : Nat → Option St} (k : Ag (fun a j => cP a j ∧ ¬ (a = 0 ∧ j = 11) ∧ ¬ (231 ≤ a ∧ a ≤ 242)) μ μ') (nhh : μ'.1 0 11 = nI (bs (fun i => (x i).isSome) 3)) (nhe : ∀ i s, i < 3 → x i = some s → cS (231 + 4 * i) s μ') : CInv (Abs.mk A.T A.S A.k A.hi x A.cl A.ch A.ct A.tn A.tb A.pl A.lv) μ' := by
  have sm : ∀ lo hi, (∀ a j, lo ≤ a → a ≤ hi → cP a j ∧ ¬ (a = 0 ∧ j = 11) ∧ ¬ (231 ≤ a ∧ a ≤ 242)) → Sm lo hi μ μ' := fun lo hi hp a j h1 h2 => k a j (hp a j h1 h2)
  refine ⟨?_, ?_, ?_, ?_, ?_, ?_, ?_, nhh, nhe, ?_, ?_, ?_, ?_⟩
  · rw [(k 1 1 (by unfold cP; omega)).1]; exact h.tn
  · intro j hj; rw [(k 2 j (by unfold cP; omega)).1]; exact h.tb j hj
  · rw [(k 3 1 (by unfold cP; omega)).1]; exact h.pl
  · exact h.T.sm (sm _ _ (by intro a j h1 h2; unfold cP; omega))
  · exact h.S.sm (sm _ _ (by intro a j h1 h2; unfold cP; omega))
  · rw [(k 17 0 (by unfold cP; omega)).1]; exact h.hn
  · obtain ⟨p, h1, h2, h3⟩ := h.hi
    refine ⟨p, h1, ?_, fun i hi => (h3 i hi).sm (sm _ _ (by intro a j h1 h2; unfold cP; omega))⟩
    rw [(k 17 2 (by unfold cP; omega)).1]; exact h2
  · rw [(k 196 0 (by unfold cP; omega)).1]; exact h.cn
  · intro i hi; rw [(k 197 i (by unfold cP; omega)).1]; exact h.ch i hi
  · intro i hi; rw [(k 198 i (by unfold cP; omega)).1]; exact h.ct i hi
  · intro w hw; rw [(k 8 w (by unfold cP; omega)).2]; exact h.ws w hw
theorem RInv.hold {A : Abs} {μ μ' : Mem} (h : RInv A μ) {x : Nat → Option St} (k : Ag (fun a j => rP a j ∧ a ≠ 287 ∧ a ≠ 288) μ μ') (nhh : ∀ i, i < 3 → μ'.1 287 i = b2i (x i).isSome) (nhe : ∀ i s, i < 3 → x i = some s → rS 288 (31 * i) s μ') : RInv (Abs.mk A.T A.S A.k A.hi x A.cl A.ch A.ct A.tn A.tb A.pl A.lv) μ' := by
  have sm : ∀ lo hi, (∀ a j, lo ≤ a → a ≤ hi → rP a j ∧ a ≠ 287 ∧ a ≠ 288) → Sm lo hi μ μ' := fun lo hi hp a j h1 h2 => k a j (hp a j h1 h2)
  refine ⟨?_, ?_, ?_, ?_, ?_, ?_, ?_, ?_, nhh, nhe, ?_, ?_, ?_, ?_⟩
  · rw [(k 243 2 (by unfold rP; omega)).1]; exact h.tn
  · intro j hj; rw [(k 244 j (by unfold rP; omega)).1]; exact h.tb j hj
  · rw [(k 243 17 (by unfold rP; omega)).1]; exact h.pl
  · rw [(k 243 18 (by unfold rP; omega)).1]; exact h.lv
  · exact h.T.sm (sm _ _ (by intro a j h1 h2; unfold rP; omega))
  · exact h.S.sm (sm _ _ (by intro a j h1 h2; unfold rP; omega))
  · rw [(k 243 56 (by unfold rP; omega)).1]; exact h.hn
  · intro i hi; exact (h.hi i hi).sm (sm _ _ (by intro a j h1 h2; unfold rP; omega))
  · rw [(k 243 62 (by unfold rP; omega)).1]; exact h.cn
  · intro i hi; rw [(k 285 i (by unfold rP; omega)).1]; exact h.ch i hi
  · intro i hi; rw [(k 286 i (by unfold rP; omega)).1]; exact h.ct i hi
  · intro w hw; rw [(k 250 w (by unfold rP; omega)).2]; exact h.ws w hw
theorem okA.clue {A : Abs} (h : okA A) {n : Nat} {x : Nat → Nat} {y : Nat → Bool} (h1 : n ≤ 20) (h2 : ∀ i, i < n → x i < 24) : okA (Abs.mk A.T A.S A.k A.hi A.he n x y A.tn A.tb A.pl A.lv) :=
  ⟨h.T, h.S, h.k, h.hi, h.he, h1, h2, h.tn, h.tb, h.lv⟩
theorem okA.go {A : Abs} (h : okA A) {S : St} {n : Nat} {x : Nat → St} (h1 : okS A.T S) (h2 : n ≤ 40) (h3 : ∀ i, i < n → okS A.T (x i)) : okA (Abs.mk A.T S n x A.he A.cl A.ch A.ct A.tn A.tb A.pl A.lv) :=
  ⟨h.T, h1, h2, h3, h.he, h.cl, h.ch, h.tn, h.tb, h.lv⟩
theorem okA.hold {A : Abs} (h : okA A) {x : Nat → Option St} (h1 : ∀ i s, x i = some s → okS A.T s) : okA (Abs.mk A.T A.S A.k A.hi x A.cl A.ch A.ct A.tn A.tb A.pl A.lv) :=
  ⟨h.T, h.S, h.k, h.hi, h1, h.cl, h.ch, h.tn, h.tb, h.lv⟩
theorem sp_forget : st_forget Inv := by
  intro μ ⟨A, hA, hc, hr⟩
  unfold fX10_forget fX11_forget
  refine ⟨nI A.cl, wI μ 196 0 0, wI (wI μ 196 0 0) 243 62 0, ?_, ?_, _, hA.clue (n := 0) (x := A.ch) (y := A.ct) (by omega) (by intro i hi; omega), ?_, ?_⟩
  · rw [hc.cn]; rfl
  · show some ((wI μ 196 0 0).1 243 62, _) = _
    rw [wI_i, if_neg (by omega), hr.cn]
  · refine hc.clue ?_ rfl (by intro i hi; omega) (by intro i hi; omega)
    intro a j hp
    refine ⟨?_, rfl⟩
    rw [wI_i, if_neg (by rcases hp with ⟨hp, h4⟩; unfold cP at hp; omega), wI_i, if_neg (by omega)]
  · refine hr.clue ?_ rfl (by intro i hi; omega) (by intro i hi; omega)
    intro a j hp
    refine ⟨?_, rfl⟩
    rw [wI_i, if_neg (by rcases hp with ⟨hp, h4⟩; omega), wI_i, if_neg (by rcases hp with ⟨hp, h4⟩; unfold rP at hp; omega)]
theorem b2i_and1 (b : Bool) : b2i b &&& 1 = b2i b := by cases b <;> decide
theorem L_0 : (0 : Int32) = nI 0 := rfl
theorem L_1 : (1 : Int32) = nI 1 := rfl
theorem L_2 : (2 : Int32) = nI 2 := rfl
theorem L_3 : (3 : Int32) = nI 3 := rfl
theorem L_4 : (4 : Int32) = nI 4 := rfl
theorem L_5 : (5 : Int32) = nI 5 := rfl
theorem L_6 : (6 : Int32) = nI 6 := rfl
theorem L_7 : (7 : Int32) = nI 7 := rfl
theorem L_8 : (8 : Int32) = nI 8 := rfl
theorem L_9 : (9 : Int32) = nI 9 := rfl
theorem L_10 : (10 : Int32) = nI 10 := rfl
theorem L_11 : (11 : Int32) = nI 11 := rfl
theorem L_12 : (12 : Int32) = nI 12 := rfl
theorem L_13 : (13 : Int32) = nI 13 := rfl
theorem L_14 : (14 : Int32) = nI 14 := rfl
theorem L_15 : (15 : Int32) = nI 15 := rfl
theorem L_16 : (16 : Int32) = nI 16 := rfl
theorem L_17 : (17 : Int32) = nI 17 := rfl
theorem L_18 : (18 : Int32) = nI 18 := rfl
theorem L_19 : (19 : Int32) = nI 19 := rfl
theorem L_20 : (20 : Int32) = nI 20 := rfl
theorem L_21 : (21 : Int32) = nI 21 := rfl
theorem L_22 : (22 : Int32) = nI 22 := rfl
theorem L_23 : (23 : Int32) = nI 23 := rfl
theorem L_24 : (24 : Int32) = nI 24 := rfl
theorem L_25 : (25 : Int32) = nI 25 := rfl
theorem L_26 : (26 : Int32) = nI 26 := rfl
theorem L_27 : (27 : Int32) = nI 27 := rfl
theorem L_28 : (28 : Int32) = nI 28 := rfl
theorem L_29 : (29 : Int32) = nI 29 := rfl
theorem L_30 : (30 : Int32) = nI 30 := rfl
theorem L_31 : (31 : Int32) = nI 31 := rfl
theorem L_32 : (32 : Int32) = nI 32 := rfl
theorem L_33 : (33 : Int32) = nI 33 := rfl
theorem L_34 : (34 : Int32) = nI 34 := rfl
theorem L_35 : (35 : Int32) = nI 35 := rfl
theorem L_36 : (36 : Int32) = nI 36 := rfl
theorem L_37 : (37 : Int32) = nI 37 := rfl
theorem L_38 : (38 : Int32) = nI 38 := rfl
theorem L_39 : (39 : Int32) = nI 39 := rfl
theorem L_40 : (40 : Int32) = nI 40 := rfl
theorem L_99 : (99 : Int32) = nI 99 := rfl
theorem L_100 : (100 : Int32) = nI 100 := rfl
theorem L_127 : (127 : Int32) = nI 127 := rfl
theorem L_128 : (128 : Int32) = nI 128 := rfl
theorem L_130 : (130 : Int32) = nI 130 := rfl
theorem L_165 : (165 : Int32) = nI 165 := rfl
theorem L_260 : (260 : Int32) = nI 260 := rfl
theorem L_400 : (400 : Int32) = nI 400 := rfl
theorem L_401 : (401 : Int32) = nI 401 := rfl
theorem L_402 : (402 : Int32) = nI 402 := rfl
theorem L_403 : (403 : Int32) = nI 403 := rfl
theorem L_408 : (408 : Int32) = nI 408 := rfl
theorem L_420 : (420 : Int32) = nI 420 := rfl
theorem L_840 : (840 : Int32) = nI 840 := rfl
theorem L_999 : (999 : Int32) = nI 999 := rfl
theorem L_2000 : (2000 : Int32) = nI 2000 := rfl
theorem L_9999 : (9999 : Int32) = nI 9999 := rfl
theorem sp_tell : st_tell Inv := by
  intro μ a1 b ⟨A, hA, hc, hr⟩
  have cl := hA.cl
  by_cases h1 : a1 < 0
  · refine ⟨-1, μ, μ, ?_, ?_, A, hA, hc, hr⟩
    · unfold fX10_tell; rw [if_pos h1]
    · unfold fX11_tell fX11_in
      rw [if_pos h1, hr.cn]
      split <;> rfl
  obtain ⟨n, hn, rfl⟩ := nI_of h1
  have hA' := hA
  clear hA
  have hc1 := hc.cn
  have hr1 := hr.cn
  have c20 : (nI A.cl < (20 : Int32)) ↔ A.cl < 20 := nI_ltI (b := 20) (by omega) (by omega)
  have q20 : (nI A.cl = (20 : Int32)) ↔ A.cl = 20 := nI_eq (b := 20) (by omega) (by omega)
  have c24 : (nI n < (24 : Int32)) ↔ n < 24 := nI_ltI (b := 24) (by omega) (by omega)
  have c23 : ((23 : Int32) < nI n) ↔ 23 < n := nI_ltI (a := 23) (by omega) (by omega)
  by_cases h2 : n < 24
  · by_cases h5 : A.cl < 20
    · have hb : inb (nI A.cl) 20 := inbN h5 (by omega)
      have hcl : (nI A.cl).toNatClampNeg = A.cl := nI_clamp (by omega)
      have hp1 : nI (A.cl + 1) - 1 = nI A.cl := nI_pred _
      refine ⟨nI A.cl, wI (wI (wI μ 197 A.cl (nI n)) 198 A.cl (b2i b)) 196 0 (nI (A.cl + 1)), wI (wI (wI (wI (wI (wI μ 197 A.cl (nI n)) 198 A.cl (b2i b)) 196 0 (nI (A.cl + 1))) 285 A.cl (nI n)) 286 A.cl (b2i b)) 243 62 (nI (A.cl + 1)), ?_, ?_, _, hA'.clue (n := A.cl + 1) (x := fun i => if i = A.cl then n else A.ch i) (y := fun i => if i = A.cl then b else A.ct i) (by omega) ?_, ?_, ?_⟩
      · unfold fX10_tell fX0_add
        rw [if_neg h1, if_pos (c24.2 h2), hc1, if_pos (c20.2 h5), if_pos (c20.2 h5), if_pos hb]
        simp only [nm_ap, wI_i]
        simp only [hc1, hcl, b2i_and1, nI_1, hp1, reduceCtorEq, Nat.reduceEqDiff, false_and, if_false, if_pos hb, and_self, if_true, bind_s]
      · unfold fX11_tell fX11_in
        simp only [wI_i]
        simp only [hr1, hcl, b2i_and1, nI_1, hp1, Nat.reduceEqDiff, false_and, if_false, if_pos hb, and_self, if_true, bind_s, q20, c23, if_neg h1, if_neg (show ¬ A.cl = 20 by omega), if_neg (show ¬ 23 < n by omega), nm_ap, wI_i]
      · intro i hi
        show (if i = A.cl then n else A.ch i) < 24
        split
        · exact h2
        · exact hA'.ch i (by omega)
      · refine hc.clue ?_ ?_ ?_ ?_
        · intro a j ⟨hp, hq⟩
          refine ⟨?_, rfl⟩
          unfold cP at hp
          repeat rw [wI_i, if_neg (by omega)]
        · rfl
        · intro i hi
          by_cases e : i = A.cl
          · subst e; simp [wI_i]
          · have := hc.ch i (by omega); simp [wI_i, e, this]
        · intro i hi
          by_cases e : i = A.cl
          · subst e; simp [wI_i]
          · have := hc.ct i (by omega); simp [wI_i, e, this]
      · refine hr.clue ?_ ?_ ?_ ?_
        · intro a j ⟨hp, hq⟩
          refine ⟨?_, rfl⟩
          unfold rP at hp
          repeat rw [wI_i, if_neg (by omega)]
        · rfl
        · intro i hi
          by_cases e : i = A.cl
          · subst e; simp [wI_i]
          · have := hr.ch i (by omega); simp [wI_i, e, this]
        · intro i hi
          by_cases e : i = A.cl
          · subst e; simp [wI_i]
          · have := hr.ct i (by omega); simp [wI_i, e, this]
    · refine ⟨-1, μ, μ, ?_, ?_, A, hA', hc, hr⟩
      · unfold fX10_tell; rw [if_neg h1, if_pos (c24.2 h2), hc1, if_neg (fun q => h5 (c20.1 q))]
      · unfold fX11_tell; rw [hr1, if_pos (q20.2 (by omega))]
  · refine ⟨-1, μ, μ, ?_, ?_, A, hA', hc, hr⟩
    · unfold fX10_tell; rw [if_neg h1, if_neg (fun q => h2 (c24.1 q))]
    · unfold fX11_tell fX11_in
      rw [if_neg h1, if_pos (c23.2 (by omega)), hr1]
      split <;> rfl
