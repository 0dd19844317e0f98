/-! ===== the first steps: place, back, forget, tell, feed ===== -/
theorem wI_i (μ : Mem) (a j : Nat) (v : Int32) (b k : Nat) : (wI μ a j v).1 b k = if b = a ∧ k = j then v else μ.1 b k := rfl
theorem wI_l (μ : Mem) (a j : Nat) (v : Int32) (b k : Nat) : (wI μ a j v).2 b k = μ.2 b k := rfl
theorem wJ_i (μ : Mem) (a j : Nat) (v : Int64) (b k : Nat) : (wJ μ a j v).1 b k = μ.1 b k := rfl
theorem wJ_l (μ : Mem) (a j : Nat) (v : Int64) (b k : Nat) : (wJ μ a j v).2 b k = if b = a ∧ k = j then v else μ.2 b k := rfl
theorem nm_ap {α β : Type} (a : α) (K : α → β) : nm a K = K a := Eq.trans (Eq.refl (K a)) (Eq.refl (K a))
theorem bind_s {α β : Type} (a : α) (K : α → Option β) : (some a).bind K = K a := Eq.trans (Eq.refl (K a)) (Eq.refl (K a))
theorem inbN {n N : Nat} (h : n < N) (hN : N < 2 ^ 31) : inb (nI n) N := nI_in h hN
theorem sp_place : st_place Inv := by
  intro μ ⟨A, _, hc, hr⟩
  refine ⟨A.pl, ?_, ?_⟩
  · unfold fX10_place; rw [hc.pl]
  · unfold fX11_place; rw [hr.pl]
/-- the component's cells, but the tape's -/
theorem CInv.tape {A : Abs} {μ μ' : Mem} (h : CInv A μ) {n : Nat} {f : Nat → Int32} (k : Ag (fun a j => cP a j ∧ a ≠ 1 ∧ a ≠ 2) μ μ') (hn : μ'.1 1 1 = nI n) (hf : ∀ j, j < n → μ'.1 2 j = f j) :
    CInv (Abs.mk A.T A.S A.k A.hi A.he A.cl A.ch A.ct n f A.pl A.lv) μ' := by
  have sm : ∀ lo hi, (∀ a j, lo ≤ a → a ≤ hi → cP a j ∧ a ≠ 1 ∧ a ≠ 2) → Sm lo hi μ μ' := fun lo hi hp a j h1 h2 => k a j (hp a j h1 h2)
  refine ⟨hn, hf, ?_, h.T.sm (sm _ _ (by intro a j h1 h2; unfold cP; omega)), h.S.sm (sm _ _ (by intro a j h1 h2; unfold cP; omega)), ?_, ?_, ?_, ?_, ?_, ?_, ?_, ?_⟩
  · rw [(k 3 1 (by unfold cP; omega)).1]; exact h.pl
  · rw [(k 17 0 (by unfold cP; omega)).1]; exact h.hn
  · obtain ⟨p, h1, h2, h3⟩ := h.hi
    refine ⟨p, h1, ?_, fun i hi => (h3 i hi).sm (sm _ _ (by intro a j h1 h2; unfold cP; omega))⟩
    rw [(k 17 2 (by unfold cP; omega)).1]; exact h2
  · rw [(k 0 11 (by unfold cP; omega)).1]; exact h.hh
  · intro i s hi hs; exact (h.he i s hi hs).sm (sm _ _ (by intro a j h1 h2; unfold cP; omega))
  · rw [(k 196 0 (by unfold cP; omega)).1]; exact h.cn
  · intro i hi; rw [(k 197 i (by unfold cP; omega)).1]; exact h.ch i hi
  · intro i hi; rw [(k 198 i (by unfold cP; omega)).1]; exact h.ct i hi
  · intro w hw; rw [(k 8 w (by unfold cP; omega)).2]; exact h.ws w hw
theorem RInv.tape {A : Abs} {μ μ' : Mem} (h : RInv A μ) {n : Nat} {f : Nat → Int32} (k : Ag (fun a j => rP a j ∧ ¬ (a = 243 ∧ j = 2) ∧ a ≠ 244) μ μ') (hn : μ'.1 243 2 = nI n) (hf : ∀ j, j < n → μ'.1 244 j = f j) :
    RInv (Abs.mk A.T A.S A.k A.hi A.he A.cl A.ch A.ct n f A.pl A.lv) μ' := by
  have sm : ∀ lo hi, (∀ a j, lo ≤ a → a ≤ hi → rP a j ∧ ¬ (a = 243 ∧ j = 2) ∧ a ≠ 244) → Sm lo hi μ μ' := fun lo hi hp a j h1 h2 => k a j (hp a j h1 h2)
  refine ⟨hn, hf, ?_, ?_, h.T.sm (sm _ _ (by intro a j h1 h2; unfold rP; omega)), h.S.sm (sm _ _ (by intro a j h1 h2; unfold rP; omega)), ?_, ?_, ?_, ?_, ?_, ?_, ?_, ?_⟩
  · rw [(k 243 17 (by unfold rP; omega)).1]; exact h.pl
  · rw [(k 243 18 (by unfold rP; omega)).1]; exact h.lv
  · rw [(k 243 56 (by unfold rP; omega)).1]; exact h.hn
  · intro i hi; exact (h.hi i hi).sm (sm _ _ (by intro a j h1 h2; unfold rP; omega))
  · intro i hi; rw [(k 287 i (by unfold rP; omega)).1]; exact h.hh i hi
  · intro i s hi hs; exact (h.he i s hi hs).sm (sm _ _ (by intro a j h1 h2; unfold rP; omega))
  · rw [(k 243 62 (by unfold rP; omega)).1]; exact h.cn
  · intro i hi; rw [(k 285 i (by unfold rP; omega)).1]; exact h.ch i hi
  · intro i hi; rw [(k 286 i (by unfold rP; omega)).1]; exact h.ct i hi
  · intro w hw; rw [(k 250 w (by unfold rP; omega)).2]; exact h.ws w hw
theorem okA.tape {A : Abs} (h : okA A) {n : Nat} {f : Nat → Int32} (hn : n ≤ 2000) (hf : ∀ j, (f j).toInt8.toInt32 = f j) : okA (Abs.mk A.T A.S A.k A.hi A.he A.cl A.ch A.ct n f A.pl A.lv) :=
  ⟨h.T, h.S, h.k, h.hi, h.he, h.cl, h.ch, hn, hf, h.lv⟩
theorem sp_back : st_back Inv := by
  intro μ a1 ⟨A, hA, hc, hr⟩
  unfold fX10_back fX11_back
  by_cases h1 : a1 < 0
  · refine ⟨-1, μ, μ, ?_, ?_, A, hA, hc, hr⟩
    · rw [if_pos h1]
    · rw [if_pos h1]
  obtain ⟨n, hn, rfl⟩ := nI_of h1
  have tn := hA.tn
  by_cases h2 : A.tn < n
  · refine ⟨-1, μ, μ, ?_, ?_, A, hA, hc, hr⟩
    · rw [if_neg h1, hc.tn, if_pos ((nI_ltI (by omega) hn).2 h2)]
    · rw [if_neg h1, hr.tn, if_pos ((nI_ltI (by omega) hn).2 h2)]
  have h3 : ¬ nI A.tn < nI n := fun q => h2 ((nI_ltI (by omega) hn).1 q)
  have e : nI A.tn - nI n = nI (A.tn - n) := pk_sub (by omega)
  refine ⟨nI (A.tn - n), wI μ 1 1 (nI (A.tn - n)), wI (wI μ 1 1 (nI (A.tn - n))) 243 2 (nI (A.tn - n)), ?_, ?_, _, hA.tape (n := A.tn - n) (f := A.tb) (by omega) hA.tb, ?_, ?_⟩
  · rw [if_neg h1, hc.tn, if_neg h3, e]; rfl
  · rw [if_neg h1]
    have : (wI μ 1 1 (nI (A.tn - n))).1 243 2 = nI A.tn := by rw [← hr.tn]; rfl
    rw [this, if_neg h3, e]; rfl
  · refine hc.tape ?_ rfl ?_
    · intro a j hp
      refine ⟨?_, rfl⟩
      rw [wI_i, if_neg (by rcases hp with ⟨hp, h4, h5⟩; unfold cP at hp; omega), wI_i, if_neg (by omega)]
    · intro j hj
      rw [← hc.tb j (by omega)]; rfl
  · refine hr.tape ?_ rfl ?_
    · intro a j hp
      refine ⟨?_, rfl⟩
      rw [wI_i, if_neg (by omega), wI_i, if_neg (by rcases hp with ⟨hp, h4, h5⟩; unfold rP at hp; omega)]
    · intro j hj
      rw [← hr.tb j (by omega)]; rfl
