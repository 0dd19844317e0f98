/-! ===== putOut, letIn, air ===== -/
theorem inB_out {S : St} {g s : Nat} (hg : g < 7) (hs : s < 9) : inB (outS S g) s = inB S s ^^^ (inB S s &&& 2 ^ g) := by
  apply Nat.eq_of_testBit_eq
  intro i
  rw [Nat.testBit_xor, Nat.testBit_and, Nat.testBit_two_pow]
  unfold inB
  rw [bs_bit, bs_bit, outS_wh]
  by_cases c : i = g
  · subst c
    have e : ((9 : Nat) == s) = false := by simp; omega
    simp [e]
  · have c2 : ¬ g = i := fun q => c q.symm
    rw [if_neg c]; simp [c2]
def tk (μ : Mem) (t g n : Nat) : Mem := (fun x k => if x = t + 1 ∧ k < n then μ.1 x k &&& (nI (2 ^ g) ^^^ (-1)) else μ.1 x k, μ.2)
theorem tk_i (μ : Mem) (t g n x k : Nat) : (tk μ t g n).1 x k = if x = t + 1 ∧ k < n then μ.1 x k &&& (nI (2 ^ g) ^^^ (-1)) else μ.1 x k := rfl
theorem takeOut_eq {t g : Nat} {μ : Mem} (hg : g < 7) : fX5_takeOut t (nI g) μ = some (tk μ t g 4) := by
  unfold fX5_takeOut
  have h1 := lupF (L := fun n v m => fX5_takeOut_2 t (nI g) (fun μ2 => some μ2) n v m) (K := fun μ2 => some μ2) (a := μ) 4 (fun i m => m = tk μ t g i) (fun i m => wI m (t + 1) i (m.1 (t + 1) i &&& (nI (2 ^ g) ^^^ (-1)))) (by omega)
    (by
      apply Prod.ext
      · funext x k; rw [tk_i, if_neg (by omega)]
      · rfl)
    (by
      intro n i m hi hm
      have hb : inb (nI i) 4 := inbN hi (by omega)
      have hcl : (nI i).toNatClampNeg = i := nI_clamp (by omega)
      rw [fX5_takeOut_2, if_pos (c_lt L_4 hi (by omega))]
      simp only [if_pos hb, hcl, nm_ap, nI_1, nI_shl g (by omega)])
    (by
      intro i m hi hm
      subst hm
      apply Prod.ext
      · funext x k
        rw [wI_i, tk_i, tk_i, tk_i, if_neg (show ¬ (t + 1 = t + 1 ∧ i < i) by omega)]
        by_cases c : x = t + 1 ∧ k = i
        · rw [if_pos c, if_pos (by omega), c.1, c.2]
        · rw [if_neg c]
          by_cases d : x = t + 1 ∧ k < i
          · rw [if_pos d, if_pos (by omega)]
          · rw [if_neg d, if_neg (by omega)]
      · rfl)
    (by
      intro n m _
      rw [fX5_takeOut_2, if_neg (c_nlt L_4 (by omega) (by omega))])
  rw [h1.2] at h1
  exact h1.1
theorem cS.out {t g : Nat} {S : St} {μ : Mem} (h : cS t S μ) (hg : g < 7) : cS t (outS S g) (tk μ t g 4) := by
  refine ⟨?_, ?_, ?_, ?_, ?_, ?_, ?_⟩
  · rw [tk_i, if_neg (by omega)]; exact h.wk
  · rw [tk_i, if_neg (by omega)]; exact h.mo
  · rw [tk_i, if_neg (by omega)]; exact h.dd
  · rw [tk_i, if_neg (by omega)]; exact h.sd
  · intro s hs
    rw [tk_i, if_pos ⟨rfl, hs⟩, h.wh s hs, nI_dif, inB_out hg (by omega)]
  · intro s hs; rw [tk_i, if_neg (by omega)]; exact h.wn s hs
  · intro s hs; rw [tk_i, if_neg (by omega)]; exact h.re s hs
/-- both sides' trail has one thing more -/
theorem okA.push {A : Abs} (h : okA A) {S : St} (h1 : okS A.T S) : okA (Abs.mk A.T S (pushK A.k) (pushH A.k A.hi A.S) A.he A.cl A.ch A.ct A.tn A.tb A.pl A.lv) := by
  have hk := h.k
  refine h.go h1 (by unfold pushK; omega) ?_
  intro i hi
  unfold pushK at hi
  unfold pushH
  by_cases c : A.k < 40
  · rw [if_pos c]
    by_cases d : i = A.k
    · rw [if_pos d]; exact h.S
    · rw [if_neg d]; exact h.hi i (by omega)
  · rw [if_neg c]
    by_cases d : i = 39
    · rw [if_pos d]; exact h.S
    · rw [if_neg d]; exact h.hi (i + 1) (by omega)
/-- the component's state changed behind a kept one -/
theorem CInv.now {A : Abs} {μ μ' : Mem} (h : CInv A μ) {S : St} (k : Ag (fun a j => cP a j ∧ ¬ (9 ≤ a ∧ a ≤ 12)) μ μ') (hS : cS 9 S μ') : CInv (Abs.mk A.T S A.k A.hi A.he A.cl A.ch A.ct A.tn A.tb A.pl A.lv) μ' := by
  obtain ⟨p, h1, h2, h3⟩ := h.hi
  refine CInv.go h (k.sub (by intro x j hx; exact ⟨hx.1, hx.2.1⟩)) hS ?_ ⟨p, h1, ?_, ?_⟩
  · rw [(k 17 0 (by unfold cP; omega)).1]; exact h.hn
  · rw [(k 17 2 (by unfold cP; omega)).1]; exact h2
  · intro i hi
    refine (h3 i hi).sm ?_
    intro a j k1 k2
    exact k a j (by unfold cP; omega)
theorem sp_putOut : st_putOut Inv := by
  intro μ a1 ⟨A, hA, hc, hr⟩
  have g7 := hA.T.g7
  have hx := hr.rX hA
  have no : (a1 < 0 ∨ nI A.T.nG ≤ a1) → ∃ (r : Bool) (μ1 μ2 : Mem), fX10_putOut a1 μ = some (r, μ1) ∧ fX11_putOut a1 μ1 = some (r, μ2) ∧ Inv μ2 := by
    intro h
    refine ⟨false, μ, μ, ?_, ?_, A, hA, hc, hr⟩
    · unfold fX10_putOut; rw [c_isGuest_no hc h g7, bind_s, if_neg (by decide)]
    · unfold fX11_putOut; rw [r_isGuest_no hx h, bind_s, if_neg (by decide)]
  rcases pk_ix a1 (n := A.T.nG) (by omega) with h | h | ⟨g, hg, rfl⟩
  · exact no (Or.inl h)
  · exact no (Or.inr h)
  have w9 := hA.S.w9 hA.T g
  have en : μ.1 276 g = whI (A.S.wh g) := by have := hr.S.wh g (by omega); rwa [Nat.zero_add] at this
  by_cases c : A.S.wh g = 9
  · refine ⟨false, μ, μ, ?_, ?_, A, hA, hc, hr⟩
    · unfold fX10_putOut; rw [c_isGuest_yes hc hg g7, bind_s, if_pos rfl, c_whereIs hc.S (by omega) w9, bind_s, if_pos ((whI_m2 (by omega)).2 c)]
    · unfold fX11_putOut
      have hb : inb (nI g) 31 := inbN (by omega) (by omega)
      have hcl : (nI g).toNatClampNeg = g := nI_clamp (by omega)
      rw [r_isGuest_yes hx hg, bind_s, if_pos rfl]
      simp only [if_pos hb, hcl]
      rw [en, if_pos ((whI_neg (by omega)).2 c)]
  · obtain ⟨m1, k1, k2⟩ := keepC hc hA.k
    have q1 : fX10_putOut (nI g) μ = some (true, tk m1 9 g 4) := by
      unfold fX10_putOut; rw [c_isGuest_yes hc hg g7, bind_s, if_pos rfl, c_whereIs hc.S (by omega) w9, bind_s, if_neg (fun q => c ((whI_m2 (by omega)).1 q)), k1, bind_s, takeOut_eq (by omega), bind_s]
    have fr1 : Fr WX10_putOut μ _ := frX10_putOut (nI g) μ _ q1
    have r1 := hr.ag (agR fr1 (by decide))
    have x1 := r1.rX hA
    obtain ⟨m2, e1, e2, e3, _⟩ := r_copies hA r1
    have r3 : RInv A (wI m2 277 g (-2)) := e3.ag (by
      intro a j hp
      refine ⟨?_, rfl⟩
      rw [wI_i, if_neg (by unfold rP at hp; omega)])
    obtain ⟨m3, e4, e5⟩ := recordsR r3 hA.k (e2.out (g := g) (by omega))
    have en1 : (tk m1 9 g 4).1 276 g = whI (A.S.wh g) := by have := r1.S.wh g (by omega); rwa [Nat.zero_add] at this
    have q2 : fX11_putOut (nI g) (tk m1 9 g 4) = some (true, m3) := by
      unfold fX11_putOut
      have hb : inb (nI g) 31 := inbN (by omega) (by omega)
      have hcl : (nI g).toNatClampNeg = g := nI_clamp (by omega)
      rw [r_isGuest_yes x1 hg, bind_s, if_pos rfl]
      simp only [if_pos hb, hcl]
      rw [en1, if_neg (fun q => c ((whI_neg (by omega)).1 q)), e1, bind_s, nm_ap, e4, bind_s]
    have fr2 : Fr WX11_putOut _ _ := frX11_putOut (nI g) _ _ q2
    refine ⟨true, _, _, q1, q2, _, hA.push (hA.S.out g), ?_, e5⟩
    refine CInv.ag ?_ (agC fr2 (by decide))
    refine CInv.now k2 ?_ (k2.S.out (by omega))
    intro a j hp
    refine ⟨?_, rfl⟩
    rw [tk_i, if_neg (by omega)]
def putS (S : St) (g s : Nat) : St := St.mk (fun i => if i = g then s else S.wh i) S.re S.dd S.wn S.sd S.wk S.mo
theorem putS_wh (S : St) (g s i : Nat) : (putS S g s).wh i = if i = g then s else S.wh i := rfl
theorem clash_symm {T : Txt} (hT : okT T) (g o : Nat) : clash T g o = clash T o g := by
  unfold clash
  have hb : (g == o) = (o == g) := by
    by_cases e : g = o
    · subst e; rfl
    · have e2 : ¬ o = g := fun q => e q.symm
      rw [beq_eq_false_iff_ne.2 e, beq_eq_false_iff_ne.2 e2]
  rw [hT.fs g o, hb]
  congr 2
  rw [Bool.and_comm]
theorem mayIn_cl {T : Txt} {S : St} (ok : okS T S) (hT : okT T) {g s : Nat} (h : mayIn T S g s = true) (hs : s < 9) {o : Nat} (ho : S.wh o = s) : clash T g o = false := by
  have g7 := hT.g7
  unfold mayIn at h
  simp only [Bool.and_eq_true, decide_eq_true_eq] at h
  have h3 := h.2.2
  have lo : o < T.nG := by
    rcases ok.wh o with e | e
    · omega
    · exact e.2
  have := congrArg (fun n => n.testBit o) h3
  simp only [Nat.testBit_and, Nat.zero_testBit] at this
  unfold inB clB at this
  rw [bs_bit, bs_bit] at this
  simpa [lo, ho, show o < 7 by omega] using this
theorem okS.put {T : Txt} {S : St} (ok : okS T S) (hT : okT T) {g s : Nat} (hg : g < T.nG) (hs : s < T.nS) (hm : mayIn T S g s = true) : okS T (putS S g s) := by
  have s4 := hT.s4
  refine ⟨?_, ?_, ok.re, ok.wn, ok.dd, ok.sd⟩
  · intro i
    rw [putS_wh]
    by_cases c : i = g
    · rw [if_pos c]; exact Or.inr ⟨hs, by omega⟩
    · rw [if_neg c]; exact ok.wh i
  · intro i o e l
    rw [putS_wh, putS_wh] at e
    rw [putS_wh] at l
    by_cases c : i = g
    · rw [if_pos c] at e
      by_cases d : o = g
      · rw [c, d]; exact clash_self T g
      · rw [if_neg d] at e; rw [c]; exact mayIn_cl ok hT hm (by omega) e.symm
    · rw [if_neg c] at e l
      by_cases d : o = g
      · rw [if_pos d] at e; rw [d, clash_symm hT]; exact mayIn_cl ok hT hm (by omega) e
      · rw [if_neg d] at e; exact ok.cl i o e l
theorem rS.put {S : St} {μ : Mem} (h : rS 277 0 S μ) {g s : Nat} (hg : g < 7) (hs : s < 9) : rS 277 0 (putS S g s) (wI μ 277 g (nI s)) := by
  have e : ∀ k, k ≠ g → (wI μ 277 g (nI s)).1 277 k = μ.1 277 k := fun k hk => by rw [wI_i, if_neg (by omega)]
  refine ⟨?_, ?_, ?_, ?_, ?_, ?_, ?_⟩
  · intro i hi
    rw [putS_wh, Nat.zero_add]
    by_cases c : i = g
    · rw [if_pos c, wI_i, if_pos ⟨rfl, c⟩]; unfold whI; rw [if_pos hs]
    · rw [if_neg c, e _ c]; have := h.wh i hi; rwa [Nat.zero_add] at this
  · intro i hi; rw [e _ (by omega)]; exact h.re i hi
  · intro i hi; rw [e _ (by omega)]; exact h.dd i hi
  · intro i hi; rw [e _ (by omega)]; exact h.wn i hi
  · intro i hi; rw [e _ (by omega)]; exact h.sd i hi
  · rw [e _ (by omega)]; exact h.wk
  · rw [e _ (by omega)]; exact h.mo
theorem inB_put {S : St} {g s : Nat} (hg : g < 7) : inB (putS S g s) s = inB S s ||| 2 ^ g := by
  apply Nat.eq_of_testBit_eq
  intro i
  rw [Nat.testBit_or, Nat.testBit_two_pow]
  unfold inB
  rw [bs_bit, bs_bit, putS_wh]
  by_cases c : i = g
  · subst c; simp [hg]
  · have c2 : ¬ g = i := fun q => c q.symm
    rw [if_neg c]; simp [c2]
theorem inB_put_ne {S : St} {g s u : Nat} (hw : S.wh g = 9) (hu : u < 9) (hne : u ≠ s) : inB (putS S g s) u = inB S u := by
  unfold inB
  apply bs_ext
  intro i _
  rw [putS_wh]
  by_cases c : i = g
  · rw [if_pos c, c, hw]
    have e1 : (s == u) = false := by simp; omega
    have e2 : ((9 : Nat) == u) = false := by simp; omega
    rw [e1, e2]
  · rw [if_neg c]
theorem cS.put {g s : Nat} {S : St} {μ : Mem} (h : cS 9 S μ) (hg : g < 7) (hs : s < 4) (hw : S.wh g = 9) : cS 9 (putS S g s) (wI μ 10 s (nI (inB S s ||| 2 ^ g))) := by
  refine ⟨?_, ?_, ?_, ?_, ?_, ?_, ?_⟩
  · rw [wI_i, if_neg (by omega)]; exact h.wk
  · rw [wI_i, if_neg (by omega)]; exact h.mo
  · rw [wI_i, if_neg (by omega)]; exact h.dd
  · rw [wI_i, if_neg (by omega)]; exact h.sd
  · intro u hu
    rw [wI_i]
    by_cases c : u = s
    · rw [if_pos ⟨rfl, c⟩, c, inB_put hg]
    · rw [if_neg (by omega), inB_put_ne hw (by omega) c]; exact h.wh u hu
  · intro u hu; rw [wI_i, if_neg (by omega)]; exact h.wn u hu
  · intro u hu; rw [wI_i, if_neg (by omega)]; exact h.re u hu
theorem RInv.row {A : Abs} {μ : Mem} (h : RInv A μ) (k : Nat) (v : Int32) : RInv A (wI μ 277 k v) := h.ag (by
  intro a j hp
  refine ⟨?_, rfl⟩
  rw [wI_i, if_neg (by unfold rP at hp; omega)])
theorem sp_letIn : st_letIn Inv := by
  intro μ a1 a2 ⟨A, hA, hc, hr⟩
  have g7 := hA.T.g7
  have s4 := hA.T.s4
  have hx := hr.rX hA
  have no1 : (a1 < 0 ∨ nI A.T.nG ≤ a1) → ∃ (r : Bool) (μ1 μ2 : Mem), fX10_letIn a1 a2 μ = some (r, μ1) ∧ fX11_letIn a1 a2 μ1 = some (r, μ2) ∧ Inv μ2 := by
    intro h
    refine ⟨false, μ, μ, ?_, ?_, A, hA, hc, hr⟩
    · unfold fX10_letIn; rw [c_isGuest_no hc h g7, bind_s, if_neg (by decide)]
    · unfold fX11_letIn; rw [r_isGuest_no hx h, bind_s, if_neg (by decide)]
  rcases pk_ix a1 (n := A.T.nG) (by omega) with h | h | ⟨g, hg, rfl⟩
  · exact no1 (Or.inl h)
  · exact no1 (Or.inr h)
  have no2 : (a2 < 0 ∨ nI A.T.nS ≤ a2) → ∃ (r : Bool) (μ1 μ2 : Mem), fX10_letIn (nI g) a2 μ = some (r, μ1) ∧ fX11_letIn (nI g) a2 μ1 = some (r, μ2) ∧ Inv μ2 := by
    intro h
    refine ⟨false, μ, μ, ?_, ?_, A, hA, hc, hr⟩
    · unfold fX10_letIn; rw [c_isGuest_yes hc hg g7, bind_s, if_pos rfl, c_isSunday_no hc h s4, bind_s, if_neg (by decide)]
    · unfold fX11_letIn; rw [r_isGuest_yes hx hg, bind_s, if_pos rfl, r_isSunday_no hx h, bind_s, if_neg (by decide)]
  rcases pk_ix a2 (n := A.T.nS) (by omega) with h | h | ⟨s, hs, rfl⟩
  · exact no2 (Or.inl h)
  · exact no2 (Or.inr h)
  have w9 := hA.S.w9 hA.T g
  have hb : inb (nI g) 31 := inbN (by omega) (by omega)
  have hcl : (nI g).toNatClampNeg = g := nI_clamp (by omega)
  have hb4 : inb (nI s) 4 := inbN (by omega) (by omega)
  have hcs : (nI s).toNatClampNeg = s := nI_clamp (by omega)
  by_cases c : A.S.wh g = 9 ∧ mayIn A.T A.S g s = true
  · obtain ⟨c1, c2⟩ := c
    obtain ⟨m1, k1, k2⟩ := keepC hc hA.k
    have q1 : fX10_letIn (nI g) (nI s) μ = some (true, wI m1 10 s (nI (inB A.S s ||| 2 ^ g))) := by
      unfold fX10_letIn
      rw [c_isGuest_yes hc hg g7, bind_s, if_pos rfl, c_isSunday_yes hc hs s4, bind_s, if_pos rfl, c_whereIs hc.S (by omega) w9, bind_s, if_pos ((whI_m2 (by omega)).2 c1), c_couldGoIn0 hA hc hg hs, bind_s, if_pos c2, k1, bind_s]
      simp only [if_pos hb4, hcs]
      have : m1.1 10 s = nI (inB A.S s) := k2.S.wh s (by omega)
      rw [nm_ap, this, nI_shl g (by omega), nI_or]
    have fr1 : Fr WX10_letIn μ _ := frX10_letIn _ _ μ _ q1
    have r1 := hr.ag (agR fr1 (by decide))
    have x1 := r1.rX hA
    obtain ⟨m2, e1, e2, e3, _⟩ := r_copies hA r1
    obtain ⟨m3, e4, e5⟩ := recordsR (e3.row g (nI s)) hA.k (e2.put (g := g) (s := s) (by omega) (by omega))
    have en : m2.1 277 g = whI (A.S.wh g) := by have := e2.wh g (by omega); rwa [Nat.zero_add] at this
    have q2 : fX11_letIn (nI g) (nI s) (wI m1 10 s (nI (inB A.S s ||| 2 ^ g))) = some (true, m3) := by
      unfold fX11_letIn
      rw [r_isGuest_yes x1 hg, bind_s, if_pos rfl, r_isSunday_yes x1 hs, bind_s, if_pos rfl, e1, bind_s]
      simp only [if_pos hb, hcl]
      rw [en, if_pos ((whI_neg (by omega)).2 c1), r_mayGoIn (e3.rX hA) e2 hA.S hg hs, bind_s, if_pos c2, nm_ap, e4, bind_s]
    have fr2 : Fr WX11_letIn _ _ := frX11_letIn _ _ _ _ q2
    refine ⟨true, _, _, q1, q2, _, hA.push (hA.S.put hA.T hg hs c2), ?_, e5⟩
    refine CInv.ag ?_ (agC fr2 (by decide))
    refine CInv.now k2 ?_ (k2.S.put (by omega) (by omega) c1)
    intro a j hp
    refine ⟨?_, rfl⟩
    rw [wI_i, if_neg (by omega)]
  · obtain ⟨m2, e1, e2, e3, _⟩ := r_copies hA hr
    have en : m2.1 277 g = whI (A.S.wh g) := by have := e2.wh g (by omega); rwa [Nat.zero_add] at this
    have q2 : fX11_letIn (nI g) (nI s) μ = some (false, m2) := by
      unfold fX11_letIn
      rw [r_isGuest_yes hx hg, bind_s, if_pos rfl, r_isSunday_yes hx hs, bind_s, if_pos rfl, e1, bind_s]
      simp only [if_pos hb, hcl]
      rw [en]
      by_cases c1 : A.S.wh g = 9
      · rw [if_pos ((whI_neg (by omega)).2 c1), r_mayGoIn (e3.rX hA) e2 hA.S hg hs, bind_s, if_neg (fun q => c ⟨c1, q⟩)]
      · rw [if_neg (fun q => c1 ((whI_neg (by omega)).1 q))]
    have fr2 : Fr WX11_letIn _ _ := frX11_letIn _ _ _ _ q2
    have cp : Ag cP μ m2 := agC (frX11_copies μ _ e1) (by decide)
    refine ⟨false, μ, m2, ?_, q2, A, hA, hc.ag cp, e3⟩
    unfold fX10_letIn
    rw [c_isGuest_yes hc hg g7, bind_s, if_pos rfl, c_isSunday_yes hc hs s4, bind_s, if_pos rfl, c_whereIs hc.S (by omega) w9, bind_s]
    by_cases c1 : A.S.wh g = 9
    · rw [if_pos ((whI_m2 (by omega)).2 c1), c_couldGoIn0 hA hc hg hs, bind_s, if_neg (fun q => c ⟨c1, q⟩)]
    · rw [if_neg (fun q => c1 ((whI_m2 (by omega)).1 q))]
/-! air -/
def airS (S : St) (s : Nat) : St := St.mk S.wh S.re S.dd (fun i => if i = s then 0 else S.wn i) S.sd S.wk (if 0 < S.mo then S.mo - 1 else S.mo)
theorem okS.air {T : Txt} {S : St} (h : okS T S) (s : Nat) : okS T (airS S s) := by
  refine ⟨h.wh, h.cl, h.re, ?_, h.dd, h.sd⟩
  intro i
  show (if i = s then 0 else S.wn i) ≤ 99
  split
  · omega
  · exact h.wn i
theorem sp_air : st_air Inv := by
  intro μ a1 ⟨A, hA, hc, hr⟩
  have g7 := hA.T.g7
  have s4 := hA.T.s4
  have hx := hr.rX hA
  have no1 : (a1 < 0 ∨ nI A.T.nS ≤ a1) → ∃ (r : Bool) (μ1 μ2 : Mem), fX10_air a1 μ = some (r, μ1) ∧ fX11_air a1 μ1 = some (r, μ2) ∧ Inv μ2 := by
    intro h
    refine ⟨false, μ, μ, ?_, ?_, A, hA, hc, hr⟩
    · unfold fX10_air; rw [c_isSunday_no hc h s4, bind_s, if_neg (by decide)]
    · unfold fX11_air; rw [r_isSunday_no hx h, bind_s, if_neg (by decide)]
  rcases pk_ix a1 (n := A.T.nS) (by omega) with h | h | ⟨s, hs, rfl⟩
  · exact no1 (Or.inl h)
  · exact no1 (Or.inr h)
  have hb4 : inb (nI s) 4 := inbN (by omega) (by omega)
  have hcs : (nI s).toNatClampNeg = s := nI_clamp (by omega)
  have b25 : inb (nI (25 + s)) 31 := inbN (by omega) (by omega)
  have b21 : inb (nI (21 + s)) 31 := inbN (by omega) (by omega)
  have c25 : (nI (25 + s)).toNatClampNeg = 25 + s := nI_clamp (by omega)
  have c21 : (nI (21 + s)).toNatClampNeg = 21 + s := nI_clamp (by omega)
  have wn99 := hA.S.wn s
  have inlt := inB_lt A.S s
  have row : ∀ m, RInv A m → ∃ m2, fX11_copies m = some m2 ∧ RInv A m2 ∧ rS 277 0 A.S m2 ∧ m2.1 277 (25 + s) = b2i (A.S.sd s) ∧ m2.1 277 (21 + s) = nI (A.S.wn s) ∧ m2.1 277 30 = A.S.mo := by
    intro m hm
    obtain ⟨m2, e1, e2, e3, _⟩ := r_copies hA hm
    refine ⟨m2, e1, e3, e2, ?_, ?_, ?_⟩
    · have := e2.sd s (by omega); rwa [Nat.zero_add] at this
    · have := e2.wn s (by omega); rwa [Nat.zero_add] at this
    · have := e2.mo; rwa [Nat.zero_add] at this
  by_cases c : inB A.S s = 0 ∧ A.S.sd s = false ∧ A.S.wn s ≠ 0
  · obtain ⟨i0, sd0, wn0⟩ := c
    obtain ⟨m1, k1, k2⟩ := keepC hc hA.k
    have mo1 : m1.1 9 1 = A.S.mo := k2.S.mo
    have q1 : ∃ m4, fX10_air (nI s) μ = some (true, m4) ∧ cS 9 (airS A.S s) m4 ∧ Ag (fun a j => cP a j ∧ ¬ (9 ≤ a ∧ a ≤ 12)) m1 m4 := by
      have base : fX10_air (nI s) μ = (if 0 < (wI m1 11 s 0).1 9 1 then some (true, wI (wI m1 11 s 0) 9 1 ((wI m1 11 s 0).1 9 1 - 1)) else some (true, wI m1 11 s 0)) := by
        unfold fX10_air
        rw [c_isSunday_yes hc hs s4, bind_s, if_pos rfl]
        simp only [if_pos hb4, hcs]
        rw [show μ.1 10 s = nI (inB A.S s) from hc.S.wh s (by omega), i0, if_pos nI_0, c_isSold hc.S (by omega), bind_s, sd0, if_neg (by decide), show μ.1 11 s = nI (A.S.wn s) from hc.S.wn s (by omega), if_neg (nI_ne0 (by omega) (by omega)), k1, bind_s]
        simp only [nm_ap]
      have e91 : (wI m1 11 s 0).1 9 1 = A.S.mo := by rw [wI_i, if_neg (by omega), mo1]
      rw [base, e91]
      by_cases p : 0 < A.S.mo
      · rw [if_pos p]
        refine ⟨_, rfl, ⟨?_, ?_, ?_, ?_, ?_, ?_, ?_⟩, ?_⟩
        · rw [wI_i, if_neg (by omega), wI_i, if_neg (by omega)]; exact k2.S.wk
        · rw [wI_i, if_pos ⟨rfl, rfl⟩]; show _ = (if 0 < A.S.mo then A.S.mo - 1 else A.S.mo); rw [if_pos p]
        · rw [wI_i, if_neg (by omega), wI_i, if_neg (by omega)]; exact k2.S.dd
        · rw [wI_i, if_neg (by omega), wI_i, if_neg (by omega)]; exact k2.S.sd
        · intro u hu; rw [wI_i, if_neg (by omega), wI_i, if_neg (by omega)]; exact k2.S.wh u hu
        · intro u hu
          show _ = nI (if u = s then 0 else A.S.wn u)
          rw [wI_i, if_neg (by omega), wI_i]
          by_cases d : u = s
          · rw [if_pos ⟨rfl, d⟩, if_pos d]; rfl
          · rw [if_neg (by omega), if_neg d]; exact k2.S.wn u hu
        · intro u hu; rw [wI_i, if_neg (by omega), wI_i, if_neg (by omega)]; exact k2.S.re u hu
        · intro a j hp
          refine ⟨?_, rfl⟩
          rw [wI_i, if_neg (by omega), wI_i, if_neg (by omega)]
      · rw [if_neg p]
        refine ⟨_, rfl, ⟨?_, ?_, ?_, ?_, ?_, ?_, ?_⟩, ?_⟩
        · rw [wI_i, if_neg (by omega)]; exact k2.S.wk
        · rw [wI_i, if_neg (by omega), mo1]; show _ = (if 0 < A.S.mo then A.S.mo - 1 else A.S.mo); rw [if_neg p]
        · rw [wI_i, if_neg (by omega)]; exact k2.S.dd
        · rw [wI_i, if_neg (by omega)]; exact k2.S.sd
        · intro u hu; rw [wI_i, if_neg (by omega)]; exact k2.S.wh u hu
        · intro u hu
          show _ = nI (if u = s then 0 else A.S.wn u)
          rw [wI_i]
          by_cases d : u = s
          · rw [if_pos ⟨rfl, d⟩, if_pos d]; rfl
          · rw [if_neg (by omega), if_neg d]; exact k2.S.wn u hu
        · intro u hu; rw [wI_i, if_neg (by omega)]; exact k2.S.re u hu
        · intro a j hp
          refine ⟨?_, rfl⟩
          rw [wI_i, if_neg (by omega)]
    obtain ⟨m4, q1, cs4, ag4⟩ := q1
    have fr1 : Fr WX10_air μ _ := frX10_air _ μ _ q1
    have r1 : RInv A m4 := hr.ag (agR fr1 (by decide))
    obtain ⟨m2, e1, e3, e2, z1, z2, z3⟩ := row m4 r1
    have gb := r_guestBits (e3.rX hA) e2 hA.S (s := s) (by omega)
    rw [i0] at gb
    have q2 : ∃ m5, fX11_air (nI s) m4 = some (true, m5) ∧ RInv (Abs.mk A.T (airS A.S s) (pushK A.k) (pushH A.k A.hi A.S) A.he A.cl A.ch A.ct A.tn A.tb A.pl A.lv) m5 := by
      have e30 : (wI m2 277 (21 + s) 0).1 277 30 = A.S.mo := by rw [wI_i, if_neg (by omega), z3]
      have base : fX11_air (nI s) m4 = (if 0 < A.S.mo then (fX11_records (wI (wI m2 277 (21 + s) 0) 277 30 (A.S.mo - 1))).bind fun q7 => some (true, q7) else (fX11_records (wI m2 277 (21 + s) 0)).bind fun q5 => some (true, q5)) := by
        unfold fX11_air
        rw [r_isSunday_yes (r1.rX hA) hs, bind_s, if_pos rfl, e1, bind_s, L_25, L_21, nI_add, nI_add]
        simp only [if_pos b25, if_pos b21, c25, c21]
        rw [z1, if_neg (by rw [sd0]; decide), z2, if_neg (nI_ne0 (by omega) (by omega)), gb, bind_s, if_pos nI_0, nm_ap, e30]
        simp only [nm_ap]
      rw [base]
      by_cases p : 0 < A.S.mo
      · rw [if_pos p]
        obtain ⟨m5, w1, w2⟩ := recordsR (S := airS A.S s) ((e3.row (21 + s) 0).row 30 (A.S.mo - 1)) hA.k (by
          refine ⟨?_, ?_, ?_, ?_, ?_, ?_, ?_⟩
          · intro g hg; rw [wI_i, if_neg (by omega), wI_i, if_neg (by omega)]; exact e2.wh g hg
          · intro g hg; rw [wI_i, if_neg (by omega), wI_i, if_neg (by omega)]; exact e2.re g hg
          · intro g hg; rw [wI_i, if_neg (by omega), wI_i, if_neg (by omega)]; exact e2.dd g hg
          · intro g hg
            show _ = nI (if g = s then 0 else A.S.wn g)
            rw [wI_i, if_neg (by omega), wI_i]
            by_cases d : g = s
            · rw [if_pos (by omega), if_pos d]; rfl
            · rw [if_neg (by omega), if_neg d]; exact e2.wn g hg
          · intro g hg; rw [wI_i, if_neg (by omega), wI_i, if_neg (by omega)]; exact e2.sd g hg
          · rw [wI_i, if_neg (by omega), wI_i, if_neg (by omega)]; exact e2.wk
          · rw [wI_i, if_pos (by omega)]; show _ = (if 0 < A.S.mo then A.S.mo - 1 else A.S.mo); rw [if_pos p])
        exact ⟨m5, by rw [w1, bind_s], w2⟩
      · rw [if_neg p]
        obtain ⟨m5, w1, w2⟩ := recordsR (S := airS A.S s) (e3.row (21 + s) 0) hA.k (by
          refine ⟨?_, ?_, ?_, ?_, ?_, ?_, ?_⟩
          · intro g hg; rw [wI_i, if_neg (by omega)]; exact e2.wh g hg
          · intro g hg; rw [wI_i, if_neg (by omega)]; exact e2.re g hg
          · intro g hg; rw [wI_i, if_neg (by omega)]; exact e2.dd g hg
          · intro g hg
            show _ = nI (if g = s then 0 else A.S.wn g)
            rw [wI_i]
            by_cases d : g = s
            · rw [if_pos (by omega), if_pos d]; rfl
            · rw [if_neg (by omega), if_neg d]; exact e2.wn g hg
          · intro g hg; rw [wI_i, if_neg (by omega)]; exact e2.sd g hg
          · rw [wI_i, if_neg (by omega)]; exact e2.wk
          · rw [wI_i, if_neg (by omega)]; show _ = (if 0 < A.S.mo then A.S.mo - 1 else A.S.mo); rw [if_neg p]; exact e2.mo)
        exact ⟨m5, by rw [w1, bind_s], w2⟩
    obtain ⟨m5, q2, rr⟩ := q2
    have fr2 : Fr WX11_air _ _ := frX11_air _ _ _ q2
    exact ⟨true, _, _, q1, q2, _, hA.push (hA.S.air s), CInv.ag (CInv.now k2 ag4 cs4) (agC fr2 (by decide)), rr⟩
  · obtain ⟨m2, e1, e3, e2, z1, z2, z3⟩ := row μ hr
    have gb := r_guestBits (e3.rX hA) e2 hA.S (s := s) (by omega)
    have q2 : fX11_air (nI s) μ = some (false, m2) := by
      unfold fX11_air
      rw [r_isSunday_yes hx hs, bind_s, if_pos rfl, e1, bind_s, L_25, L_21, nI_add, nI_add]
      simp only [if_pos b25, if_pos b21, c25, c21]
      rw [z1]
      by_cases d1 : A.S.sd s = true
      · rw [if_pos (b2i_eq1.2 d1)]
      · rw [if_neg (fun q => d1 (b2i_eq1.1 q)), z2]
        by_cases d2 : A.S.wn s = 0
        · rw [d2, if_pos nI_0]
        · rw [if_neg (nI_ne0 (by omega) (by omega)), gb, bind_s, if_neg (fun q => c ⟨by
            have := (nI_eq (b := 0) (by omega) (by omega)).1 q; exact this, by simpa using d1, d2⟩)]
    have q1 : fX10_air (nI s) μ = some (false, μ) := by
      unfold fX10_air
      rw [c_isSunday_yes hc hs s4, bind_s, if_pos rfl]
      simp only [if_pos hb4, hcs]
      rw [show μ.1 10 s = nI (inB A.S s) from hc.S.wh s (by omega)]
      by_cases d0 : inB A.S s = 0
      · rw [d0, if_pos nI_0, c_isSold hc.S (by omega), bind_s]
        by_cases d1 : A.S.sd s = true
        · rw [if_pos d1]
        · rw [if_neg d1, show μ.1 11 s = nI (A.S.wn s) from hc.S.wn s (by omega)]
          by_cases d2 : A.S.wn s = 0
          · rw [d2, if_pos nI_0]
          · exact absurd ⟨d0, by simpa using d1, d2⟩ c
      · rw [if_neg (nI_ne0 (by omega) (by omega))]
    have cp : Ag cP μ m2 := agC (frX11_copies μ _ e1) (by decide)
    exact ⟨false, μ, m2, q1, q2, A, hA, hc.ag cp, e3⟩
