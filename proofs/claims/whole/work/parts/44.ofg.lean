/-! ===== a law of a guest in a Sunday ===== -/
def vsG (T : Txt) (S : St) (g s : Nat) (o : Int32) : Nat → Int32 := fun k => if k = 0 then nI (T.fe g) else if k = 1 then nI (T.hs g) else if k = 2 then nI (T.hr g) else if k = 3 then nI (S.re g) else if k = 4 then nI (S.wn s) else if k = 5 then nI (T.wo s) else if k = 6 then S.wk else if k = 7 then nI g else o
theorem c_ofGuest {t u : Nat} {T : Txt} {S : St} {μ : Mem} (ht : 182 < t) (hu : u + 3 < 181 ∨ 182 < u) (hT : okT T) (h : cT t T μ) (hS : cS u S μ) {k g s : Nat} (hk : k < 4) (hg : g < T.nG) (hs : s < T.nS) (o : Int32) : ∃ m, fX1_ofGuest (nI k) t u (nI g) (nI s) o μ = some (lawV T k (vsG T S g s o), m) := by
  have g7 := hT.g7
  have s4 := hT.s4
  have hb4 : inb (nI s) 4 := inbN (by omega) (by omega)
  have hcs : (nI s).toNatClampNeg = s := nI_clamp (by omega)
  have hb7 : inb (nI g) 7 := inbN (by omega) (by omega)
  have hcg : (nI g).toNatClampNeg = g := nI_clamp (by omega)
  unfold fX1_ofGuest fX1_setSunday
  simp only [if_pos hb4, hcs, nm_ap, bind_s, if_pos hb7, hcg]
  generalize hm : wI (wI _ 181 7 (nI g)) 181 8 o = m7
  have ex : Ex 181 μ m7 := by
    subst hm
    exact Ex.trans (Ex.trans (Ex.trans (Ex.trans (Ex.trans (Ex.trans (Ex.trans (Ex.trans Ex.w Ex.w) Ex.w) Ex.w) Ex.w) Ex.w) Ex.w) Ex.w) Ex.w
  obtain ⟨m, e⟩ := c_answerHeld (μ := m7) ht hT (h.sm (ex.sm (by omega))) hk
  refine ⟨m, ?_⟩
  rw [e, bind_s]
  congr 2
  apply lawV_ext hT hk
  intro j hj
  subst hm
  have f1 : ¬ t + 5 = 181 := by omega
  have f2 : ¬ t + 4 = 181 := by omega
  have f3 : ¬ t + 3 = 181 := by omega
  have f4 : ¬ u + 3 = 181 := by omega
  have f5 : ¬ u + 2 = 181 := by omega
  have f6 : ¬ t + 2 = 181 := by omega
  have f7 : ¬ u = 181 := by omega
  simp only [wI_i, f1, f2, f3, f4, f5, f6, f7, false_and, if_false]
  rw [h.fe g hg, h.hs g hg, h.hr g hg, hS.re g (by omega), hS.wn s (by omega), h.wo s hs, hS.wk]
  unfold vsG
  rcases (show j = 0 ∨ j = 1 ∨ j = 2 ∨ j = 3 ∨ j = 4 ∨ j = 5 ∨ j = 6 ∨ j = 7 ∨ j = 8 by omega) with e | e | e | e | e | e | e | e | e <;> subst e <;> simp
