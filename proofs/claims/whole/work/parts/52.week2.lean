/-! ===== a week of the component ===== -/
theorem reN_le {T : Txt} {S : St} (ok : okS T S) (g : Nat) : reN T S g ≤ 999 := by
  have := ok.re g
  unfold reN
  split
  · split <;> omega
  · omega
theorem wnN_le {T : Txt} {S : St} (ok : okS T S) (s : Nat) : wnN T S s ≤ 99 := by
  have := ok.wn s
  unfold wnN
  split <;> omega
theorem okS.pr {T : Txt} {S : St} (ok : okS T S) (m : Int32) (i : Nat) : okS T (prS T S m i) := by
  refine ⟨ok.wh, ok.cl, ?_, ok.wn, ok.dd, ok.sd⟩
  intro g
  show (if g < i then reN T S g else S.re g) ≤ 999
  split
  · exact reN_le ok g
  · exact ok.re g
theorem okS.we {T : Txt} {S : St} (ok : okS T S) (i : Nat) : okS T (weS T S i) := by
  refine ⟨ok.wh, ok.cl, ok.re, ?_, ok.dd, ok.sd⟩
  intro g
  show (if g < i then wnN T S g else S.wn g) ≤ 99
  split
  · exact wnN_le ok g
  · exact ok.wn g
theorem okS.bu {T : Txt} {S : St} (ok : okS T S) (l : Int32) (i : Nat) : okS T (buS T S l i) := by
  refine ⟨?_, ?_, ok.re, ok.wn, ?_, ok.sd⟩
  · intro g
    show (if g < i ∧ dieB T S l g = true then 9 else S.wh g) = 9 ∨ _
    by_cases c : g < i ∧ dieB T S l g = true
    · rw [if_pos c]; exact Or.inl rfl
    · rw [if_neg c]
      rcases ok.wh g with e | e
      · exact Or.inl e
      · refine Or.inr ?_
        show (if g < i ∧ dieB T S l g = true then 9 else S.wh g) < T.nS ∧ _
        rw [if_neg c]; exact e
  · intro g o e l1
    have f : ∀ x, (buS T S l i).wh x = if x < i ∧ dieB T S l x = true then 9 else S.wh x := fun _ => rfl
    rw [f, f] at e
    rw [f] at l1
    by_cases c : g < i ∧ dieB T S l g = true
    · rw [if_pos c] at l1; omega
    · rw [if_neg c] at l1 e
      by_cases d : o < i ∧ dieB T S l o = true
      · rw [if_pos d] at e; omega
      · rw [if_neg d] at e; exact ok.cl g o e l1
  · intro g hg
    have f : (buS T S l i).dd g = (S.dd g || (decide (g < i) && dieB T S l g)) := rfl
    rw [f, Bool.or_eq_true, Bool.and_eq_true] at hg
    rcases hg with hg | ⟨_, hg⟩
    · exact ok.dd g hg
    · unfold dieB at hg
      simp only [Bool.and_eq_true, Bool.not_eq_true', beq_eq_false_iff_ne] at hg
      rcases ok.wh g with e | e
      · exact absurd e hg.2.1
      · exact e.2
theorem okS.swk {T : Txt} {S : St} (ok : okS T S) (v : Int32) : okS T (sWk S v) := ⟨ok.wh, ok.cl, ok.re, ok.wn, ok.dd, ok.sd⟩
theorem okS.smo {T : Txt} {S : St} (ok : okS T S) (v : Int32) : okS T (sMo S v) := ⟨ok.wh, ok.cl, ok.re, ok.wn, ok.dd, ok.sd⟩
theorem okS.wk0 {T : Txt} {S : St} (ok : okS T S) : okS T (wk0 T S) := (ok.pr _ _).we _
theorem okS.week {T : Txt} {S : St} (ok : okS T S) (l : Option Int32) : okS T (weekF T l S) := by
  cases l with
  | none => exact ok.wk0.swk _
  | some l => exact (ok.wk0.bu l _).swk _
theorem FrL.sm {m m' : Mem} (h : Fr [(181, 1, none), (182, 1, none)] m m') {lo hi : Nat} (k : hi < 181 ∨ 182 < lo) : Sm lo hi m m' := Sm.of h (by intro a j h1 h2; simp [inW]; omega)
theorem prS_re {T : Txt} {S : St} {i : Nat} (h : gLaw T S 0 i = 0) : prS T S (payA T S (i + 1)) (i + 1) = sRe (prS T S (payA T S i) i) i (reN T S i) := by
  rw [prS_s T S (payA T S i)]
  have : payA T S (i + 1) = payA T S i := by
    unfold payA; rw [smv, h, ad0]
  rw [this]; rfl
theorem prS_same {T : Txt} {S : St} {i : Nat} (h : gLaw T S 0 i = 0) (h2 : reN T S i = S.re i) : prS T S (payA T S (i + 1)) (i + 1) = prS T S (payA T S i) i := by
  rw [prS_re h]
  apply St.ext2 <;> intros <;> try rfl
  next g =>
    show (if g = i then reN T S i else if g < i then reN T S g else S.re g) = if g < i then reN T S g else S.re g
    by_cases c : g = i
    · subst c; rw [if_pos rfl, if_neg (by omega), h2]
    · rw [if_neg c]
theorem prS_rei (T : Txt) (S : St) (m : Int32) (i : Nat) : (prS T S m i).re i = S.re i := by
  show (if i < i then reN T S i else S.re i) = S.re i
  rw [if_neg (by omega)]
theorem vsG_pr (T : Txt) (S : St) (m m' : Int32) (i s : Nat) (o : Int32) : vsG T (sMo (prS T S m i) m') i s o = vsG T S i s o := by
  have e : (sMo (prS T S m i) m').re i = S.re i := prS_rei T S m i
  unfold vsG
  rw [e]
  rfl
theorem mx0 {a : Nat} (h : a ≤ 999) : mxI 0 (nI a - 1) = nI (a - 1) := by
  rcases a with _ | a
  · decide
  · rw [nI_pred, L_0, mxI_nI (by omega) (by omega)]
    congr 1
theorem c_payAndRest {u : Nat} {T : Txt} {S : St} {μ : Mem} (hu : u + 3 < 181) (hT : okT T) (ok : okS T S) (h : cT 199 T μ) (hS : cS u S μ) : ∃ m, fX1_payAndRest 199 u μ = some m ∧ cT 199 T m ∧ cS u (prS T S (payA T S T.nG) T.nG) m := by
  have g7 := hT.g7
  have s4 := hT.s4
  unfold fX1_payAndRest
  refine lupX (L := fun n v m => fX1_payAndRest_2 199 u (fun μ9 => some μ9) n v m) (K := fun μ9 => some μ9) T.nG (fun i m => cT 199 T m ∧ cS u (prS T S (payA T S i) i) m) (by omega) ⟨h, ?_⟩ ?_ ?_
  · have : payA T S 0 = S.mo := ad0 _
    rw [this, prS_0]; exact hS
  · rintro n i m hi ⟨mT, mS⟩
    have hb7 : inb (nI i) 7 := inbN (by omega) (by omega)
    have hci : (nI i).toNatClampNeg = i := nI_clamp (by omega)
    have ok2 := ok.pr (payA T S i) i
    have rei := prS_rei T S (payA T S i) i
    have w9 : S.wh i < 9 ∨ S.wh i = 9 := by have := ok.w9 hT i; omega
    have whe : (prS T S (payA T S i) i).wh i = S.wh i := rfl
    have re999 := ok.re i
    show ∃ b, fX1_payAndRest_2 199 u (fun μ9 => some μ9) (n + 1) (nI i) m = _ ∧ _
    rw [fX1_payAndRest_2, mT.nG, if_pos (nI_lt hi (by omega)), c_whereIs mS (by omega) (by rw [whe]; exact ok.w9 hT i), bind_s, whe]
    by_cases c : S.wh i = 9
    · have g0 : gLaw T S 0 i = 0 := by unfold gLaw; rw [if_pos c]
      rw [if_pos ((whI_m2 w9).2 c), c_isDead mS (by omega), bind_s]
      have dde : (prS T S (payA T S i) i).dd i = S.dd i := rfl
      rw [dde]
      cases hd : S.dd i with
      | true =>
        rw [if_pos rfl, nI_1]
        refine ⟨m, rfl, mT, ?_⟩
        rw [prS_same g0 (by unfold reN; rw [if_pos c, if_pos hd])]; exact mS
      | false =>
        have hre : reN T S i = S.re i - 1 := by unfold reN; rw [if_pos c, if_neg (by rw [hd]; decide)]
        rw [if_neg (by decide)]
        simp only [if_pos hb7, hci, nm_ap]
        rw [mS.re i (by omega), rei, mx0 re999, nI_1]
        refine ⟨_, rfl, mT.sm (Sm.wI (by omega)), ?_⟩
        rw [prS_re g0, hre]
        exact mS.sRe i _
    · have hs := ok.in_nS c
      have wi : whI (S.wh i) = nI (S.wh i) := by unfold whI; rw [if_pos (by omega)]
      have hb4 : inb (nI (S.wh i)) 4 := inbN (by omega) (by omega)
      have hcs : (nI (S.wh i)).toNatClampNeg = S.wh i := nI_clamp (by omega)
      rw [if_neg (fun q => c ((whI_m2 w9).1 q)), wi]
      simp only [if_pos hb4, hcs]
      have inE : (m.1 (u + 1) (S.wh i)) = nI (inB S (S.wh i)) := mS.wh _ (by omega)
      rw [inE, c_bits (inB_lt S _), bind_s]
      obtain ⟨q5, e5⟩ : ∃ q, fX1_ofGuest 0 199 u (nI i) (nI (S.wh i)) (othI S i) m = some (lawV T 0 (vsG T (prS T S (payA T S i) i) i (S.wh i) (othI S i)), q) := c_ofGuest (k := 0) (by omega) (by omega) hT mT mS (by omega) hi hs (othI S i)
      have vs1 : vsG T (prS T S (payA T S i) i) i (S.wh i) (othI S i) = vsG T S i (S.wh i) (othI S i) := vsG_pr T S (payA T S i) (payA T S i) i _ _
      have gl0 : lawV T 0 (vsG T S i (S.wh i) (othI S i)) = gLaw T S 0 i := by unfold gLaw; rw [if_neg c]
      have gl1 : lawV T 1 (vsG T S i (S.wh i) (othI S i)) = gLaw T S 1 i := by unfold gLaw; rw [if_neg c]
      rw [vs1, gl0] at e5
      have f5 := frX1_ofGuest _ _ _ _ _ _ _ _ e5
      rw [show nI (pcN (inB S (S.wh i))) - 1 = othI S i from rfl, e5, bind_s]
      have T5 : cT 199 T q5 := mT.sm (FrL.sm f5 (by omega))
      have S5 : cS u (prS T S (payA T S i) i) q5 := mS.sm (FrL.sm f5 (by omega))
      have pay : m.1 u 1 + gLaw T S 0 i = payA T S (i + 1) := by
        rw [mS.mo]
        show payA T S i + gLaw T S 0 i = _
        unfold payA; rw [smv, Int32.add_assoc]
      simp only [nm_ap]
      rw [pay]
      have S6 : cS u (sMo (prS T S (payA T S i) i) (payA T S (i + 1))) (wI q5 u 1 (payA T S (i + 1))) := S5.sMo _
      have T6 : cT 199 T (wI q5 u 1 (payA T S (i + 1))) := T5.sm (Sm.wI (by omega))
      generalize wI q5 u 1 (payA T S (i + 1)) = m6 at S6 T6
      obtain ⟨q7, e7⟩ : ∃ q, fX1_ofGuest 1 199 u (nI i) (nI (S.wh i)) (othI S i) m6 = some (lawV T 1 (vsG T (sMo (prS T S (payA T S i) i) (payA T S (i + 1))) i (S.wh i) (othI S i)), q) := c_ofGuest (k := 1) (by omega) (by omega) hT T6 S6 (by omega) hi hs (othI S i)
      rw [vsG_pr, gl1] at e7
      have f7 := frX1_ofGuest _ _ _ _ _ _ _ _ e7
      have T7 : cT 199 T q7 := T6.sm (FrL.sm f7 (by omega))
      have S7 : cS u (sMo (prS T S (payA T S i) i) (payA T S (i + 1))) q7 := S6.sm (FrL.sm f7 (by omega))
      rw [e7, bind_s]
      simp only [if_pos hb7, hci]
      have r7 : q7.1 (u + 3) i = nI (S.re i) := by
        rw [S7.re i (by omega)]
        show nI ((prS T S (payA T S i) i).re i) = _
        rw [rei]
      have gn := gLaw_N T S 1 i
      rw [r7, gn.1, nI_add, show (999 : Int32) = nI 999 from rfl, mnI_nI (by omega) (by omega), nI_1]
      refine ⟨_, rfl, T7.sm (Sm.wI (by omega)), ?_⟩
      rw [prS_s T S (payA T S i)]
      have : reN T S i = min 999 (S.re i + (gLaw T S 1 i).toNatClampNeg) := by unfold reN; rw [if_neg c]
      rw [this]
      exact S7.sRe i _
  · rintro n m ⟨mT, mS⟩
    show fX1_payAndRest_2 199 u (fun μ9 => some μ9) (n + 1) (nI T.nG) m = _
    rw [fX1_payAndRest_2, mT.nG, if_neg (nI_nlt (by omega) (by omega))]
theorem vsS_we (T : Txt) (S : St) (i : Nat) : vsS T (weS T S i) i = vsS T S i := by
  have e : (weS T S i).wn i = S.wn i := by
    show (if i < i then wnN T S i else S.wn i) = S.wn i
    rw [if_neg (by omega)]
  unfold vsS
  rw [e]
  rfl
theorem c_wear {u : Nat} {T : Txt} {S : St} {μ : Mem} (hu : u + 3 < 181) (hT : okT T) (ok : okS T S) (h : cT 199 T μ) (hS : cS u S μ) : ∃ m, fX1_wear 199 u μ = some m ∧ cT 199 T m ∧ cS u (weS T S T.nS) m := by
  have s4 := hT.s4
  unfold fX1_wear
  refine lupX (L := fun n v m => fX1_wear_2 199 u (fun μ9 => some μ9) n v m) (K := fun μ9 => some μ9) T.nS (fun i m => cT 199 T m ∧ cS u (weS T S i) m) (by omega) ⟨h, ?_⟩ ?_ ?_
  · rw [weS_0]; exact hS
  · rintro n i m hi ⟨mT, mS⟩
    have hb4 : inb (nI i) 4 := inbN (by omega) (by omega)
    have hci : (nI i).toNatClampNeg = i := nI_clamp (by omega)
    have ok2 := ok.we i
    have wni : (weS T S i).wn i = S.wn i := by
      show (if i < i then wnN T S i else S.wn i) = S.wn i
      rw [if_neg (by omega)]
    have wn99 := ok.wn i
    have lt := inB_lt S i
    have inE : m.1 (u + 1) i = nI (inB S i) := mS.wh i (by omega)
    show ∃ b, fX1_wear_2 199 u (fun μ9 => some μ9) (n + 1) (nI i) m = _ ∧ _
    rw [fX1_wear_2, mT.nS, if_pos (nI_lt hi (by omega))]
    simp only [if_pos hb4, hci]
    rw [inE]
    by_cases c : inB S i = 0
    · rw [if_pos (by rw [c]; rfl), nI_1]
      refine ⟨m, rfl, mT, ?_⟩
      rw [weS_s]
      have : sWn (weS T S i) i (wnN T S i) = weS T S i := by
        apply St.ext2 <;> intros <;> try rfl
        next g =>
          show (if g = i then wnN T S i else (weS T S i).wn g) = (weS T S i).wn g
          by_cases d : g = i
          · rw [if_pos d, d, wni]; unfold wnN; rw [if_pos c]
          · rw [if_neg d]
      rw [this]; exact mS
    · rw [if_neg (nI_ne0 (by omega) (by omega))]
      obtain ⟨q1, e1⟩ : ∃ q, fX1_ofSunday 2 199 u (nI i) m = some (lawV T 2 (vsS T (weS T S i) i), q) := c_ofSunday (k := 2) (by omega) (by omega) hT ok2 mT mS (by omega) hi
      rw [vsS_we] at e1
      have f1 := frX1_ofSunday _ _ _ _ _ _ e1
      rw [e1, bind_s]
      have T1 : cT 199 T q1 := mT.sm (FrL.sm f1 (by omega))
      have S1 : cS u (weS T S i) q1 := mS.sm (FrL.sm f1 (by omega))
      have w1 : m.1 (u + 2) i = nI (S.wn i) := by rw [mS.wn i (by omega), wni]
      have gn := lawV_N T 2 (vsS T S i)
      simp only [nm_ap]
      rw [w1, gn.1, nI_add, show (99 : Int32) = nI 99 from rfl, mnI_nI (by omega) (by omega), nI_1]
      refine ⟨_, rfl, T1.sm (Sm.wI (by omega)), ?_⟩
      rw [weS_s]
      have : wnN T S i = min 99 (S.wn i + (lawV T 2 (vsS T S i)).toNatClampNeg) := by unfold wnN; rw [if_neg c]
      rw [this]
      exact S1.sWn i _
  · rintro n m ⟨mT, mS⟩
    show fX1_wear_2 199 u (fun μ9 => some μ9) (n + 1) (nI T.nS) m = _
    rw [fX1_wear_2, mT.nS, if_neg (nI_nlt (by omega) (by omega))]
theorem c_lot (l w : Int32) (μ : Mem) : fX1_lot l w μ = some (lotI l w) := by
  unfold fX1_lot fX1_stir lotI stI
  simp only [nm_ap, bind_s]
theorem tk_sm {m : Mem} {u g lo hi : Nat} (k : u + 1 < lo ∨ hi < u + 1) : Sm lo hi m (tk m u g 4) := fun a j h1 h2 => ⟨by rw [tk_i, if_neg (by omega)], rfl⟩
theorem c_bury {u : Nat} {T : Txt} {S : St} {μ : Mem} (hu : u + 3 < 181) (hT : okT T) (ok : okS T S) (h : cT 199 T μ) (hS : cS u S μ) (l : Int32) : ∃ m, fX1_bury 199 u l μ = some m ∧ cT 199 T m ∧ cS u (buS T S l T.nG) m := by
  have g7 := hT.g7
  have s4 := hT.s4
  have de := hT.de
  unfold fX1_bury
  refine lupX (L := fun n v m => fX1_bury_3 199 u l (fun μ9 => some μ9) n v m) (K := fun μ9 => some μ9) T.nG (fun i m => cT 199 T m ∧ cS u (buS T S l i) m) (by omega) ⟨h, ?_⟩ ?_ ?_
  · rw [buS_0]; exact hS
  · rintro n i m hi ⟨mT, mS⟩
    have hb7 : inb (nI i) 7 := inbN (by omega) (by omega)
    have hci : (nI i).toNatClampNeg = i := nI_clamp (by omega)
    have ok2 := ok.bu l i
    have w9 : S.wh i < 9 ∨ S.wh i = 9 := by have := ok.w9 hT i; omega
    have whe : (buS T S l i).wh i = S.wh i := by
      show (if i < i ∧ dieB T S l i = true then 9 else S.wh i) = S.wh i
      rw [if_neg (by omega)]
    have re999 := ok.re i
    have reE : m.1 (u + 3) i = nI (S.re i) := mS.re i (by omega)
    have wkE : m.1 u 0 = S.wk := mS.wk
    show ∃ b, fX1_bury_3 199 u l (fun μ9 => some μ9) (n + 1) (nI i) m = _ ∧ _
    rw [fX1_bury_3, mT.nG, if_pos (nI_lt hi (by omega))]
    simp only [if_pos hb7, hci, nm_ap]
    rw [reE, mT.de]
    by_cases c1 : T.de ≤ S.re i
    · have n1 : ¬ nI (S.re i) - nI T.de < 0 := by
        rw [pk_sub c1]; exact nI_pos (by omega)
      rw [if_neg n1, c_whereIs mS (by omega) (ok2.w9 hT i), bind_s, whe]
      by_cases c2 : S.wh i = 9
      · rw [if_pos ((whI_m2 w9).2 c2), nI_1]
        refine ⟨m, rfl, mT, ?_⟩
        rw [buS_no _ _ _ _ (by unfold dieB; simp [c2])]; exact mS
      · rw [if_neg (fun q => c2 ((whI_m2 w9).1 q)), c_lot, bind_s, wkE]
        by_cases c3 : lotI l (8 * S.wk + nI i) < nI (S.re i) - nI T.de + 10
        · rw [if_pos c3, nI_shl i (by omega), show m.1 u 2 = nI (bs (buS T S l i).dd 7) from mS.dd, nI_or, takeOut_eq (by omega), bind_s, nI_1]
          refine ⟨_, rfl, (mT.sm (Sm.wI (by omega))).sm (tk_sm (by omega)), ?_⟩
          rw [buS_yes _ _ _ _ (by unfold dieB; simp [c1, c2, c3])]
          exact (mS.sDd (by omega)).out (by omega)
        · rw [if_neg c3, nI_1]
          refine ⟨m, rfl, mT, ?_⟩
          rw [buS_no _ _ _ _ (by unfold dieB; simp [c3])]; exact mS
    · have n1 : nI (S.re i) - nI T.de < 0 := by
        rw [Int32.lt_iff_toInt_lt, pk_sub_toInt (by omega) (by omega)]
        have : (0 : Int32).toInt = 0 := by decide
        omega
      rw [if_pos n1, nI_1]
      refine ⟨m, rfl, mT, ?_⟩
      rw [buS_no _ _ _ _ (by unfold dieB; simp [c1])]; exact mS
  · rintro n m ⟨mT, mS⟩
    show fX1_bury_3 199 u l (fun μ9 => some μ9) (n + 1) (nI T.nG) m = _
    rw [fX1_bury_3, mT.nG, if_neg (nI_nlt (by omega) (by omega))]
theorem c_passWeek {u : Nat} {T : Txt} {S : St} {μ : Mem} (hu : u + 3 < 181) (hT : okT T) (ok : okS T S) (h : cT 199 T μ) (hS : cS u S μ) : ∃ m, fX1_passWeek 199 u μ = some m ∧ cT 199 T m ∧ cS u (weekF T none S) m := by
  obtain ⟨m1, e1, T1, S1⟩ := c_payAndRest hu hT ok h hS
  obtain ⟨m2, e2, T2, S2⟩ := c_wear hu hT (ok.pr _ _) T1 S1
  unfold fX1_passWeek
  rw [e1, bind_s, e2, bind_s, nm_ap, S2.wk]
  exact ⟨_, rfl, T2.sm (Sm.wI (by omega)), S2.sWk _⟩
def itW (T : Txt) (l : Option Int32) : Nat → St → St
  | 0, S => S
  | n + 1, S => weekF T l (itW T l n S)
theorem okS.it {T : Txt} {S : St} (ok : okS T S) (l : Option Int32) : ∀ n, okS T (itW T l n S)
  | 0 => ok
  | n + 1 => (okS.it ok l n).week l
theorem c_passDeadly {u : Nat} {T : Txt} {S : St} {μ : Mem} (hu : u + 3 < 181) (hT : okT T) (ok : okS T S) (h : cT 199 T μ) (hS : cS u S μ) (l : Int32) {N : Nat} (hN : N ≤ 40) : ∃ m, fX1_passDeadlyWeeks 199 u (nI N) l μ = some m ∧ cT 199 T m ∧ cS u (itW T (some l) N S) m := by
  unfold fX1_passDeadlyWeeks
  refine lupX (L := fun n v m => fX1_passDeadlyWeeks_3 199 u (nI N) l (fun μ9 => some μ9) n v m) (K := fun μ9 => some μ9) N (fun i m => cT 199 T m ∧ cS u (itW T (some l) i S) m) (by omega) ⟨h, hS⟩ ?_ ?_
  · rintro n i m hi ⟨mT, mS⟩
    obtain ⟨m1, e1, T1, S1⟩ := c_payAndRest hu hT (ok.it _ i) mT mS
    obtain ⟨m2, e2, T2, S2⟩ := c_wear hu hT ((ok.it _ i).pr _ _) T1 S1
    obtain ⟨m3, e3, T3, S3⟩ := c_bury hu hT (((ok.it _ i).pr _ _).we _) T2 S2 l
    show ∃ b, fX1_passDeadlyWeeks_3 199 u (nI N) l (fun μ9 => some μ9) (n + 1) (nI i) m = _ ∧ _
    rw [fX1_passDeadlyWeeks_3, if_pos (nI_lt hi (by omega)), e1, bind_s, e2, bind_s, e3, bind_s, nm_ap, S3.wk, nI_1]
    exact ⟨_, rfl, T3.sm (Sm.wI (by omega)), S3.sWk _⟩
  · rintro n m ⟨mT, mS⟩
    show fX1_passDeadlyWeeks_3 199 u (nI N) l (fun μ9 => some μ9) (n + 1) (nI N) m = _
    rw [fX1_passDeadlyWeeks_3, if_neg (nI_nlt (by omega) (by omega))]
