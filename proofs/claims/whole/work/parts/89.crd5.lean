/-! ===== the component: foes told ===== -/
theorem cRd.f {K V : Nat → Nat} {N : Nat → List Nat} {P : Nat → Nat} {R : Rd} {m m' : Mem} {t e : Nat} {F : Nat → Nat → Bool} (h : cRd K V N P R m t e) (h8 : R.nf < 8) (h7 : m'.1 215 7 = nI (R.nf + 1)) (kp : ∀ a i, ¬ (a = 228 ∨ (a = 215 ∧ i = 7)) → m'.1 a i = m.1 a i) (kl : ∀ a i, m'.2 a i = m.2 a i) (hF : ∀ g, g < R.T.nG → m'.1 228 g = nI (bs (F g) 7)) (hg : ∀ g o, F g o = true → g < R.T.nG ∧ o < R.T.nG) : cRd K V N P (Rd.mk (Txt.mk R.T.nS R.T.nG R.T.lo R.T.wo R.T.hr R.T.hs R.T.fe F R.T.de R.T.se R.T.la R.T.tl) (R.nf + 1) R.sn R.gn R.lt) m' t e := by
  obtain ⟨g1, g2, g3, g4, g5, g6⟩ := h.ps
  refine ⟨⟨g1.fr (fun a i a1 a2 => ⟨kp a i (by omega), kl a i⟩), by rw [kp _ _ (by omega)]; exact g2, g3, g4, by rw [kp _ _ (by omega)]; exact g5, g6⟩, by rw [kp _ _ (by omega)]; exact h.nS, h.s4, by rw [kp _ _ (by omega)]; exact h.nG, h.g7, h7, h8, by rw [kp _ _ (by omega)]; exact h.de, by rw [kp _ _ (by omega)]; exact h.se, ?_, ?_, hg, ?_, ?_⟩
  · intro z hz
    have := h.lo z hz
    show m'.1 216 z = nI (R.T.lo z) ∧ m'.1 217 z = nI (R.T.wo z) ∧ m'.2 229 z = lN (pkw 32 (R.sn z)) ∧ ltOk (R.sn z)
    rw [kp _ _ (by omega), kp _ _ (by omega), kl]
    exact this
  · intro g hg'
    have := h.gu g hg'
    show m'.1 218 g = nI (R.T.hr g) ∧ m'.1 219 g = nI (R.T.hs g) ∧ m'.1 220 g = nI (R.T.fe g) ∧ m'.1 228 g = nI (bs (F g) 7) ∧ m'.2 230 g = lN (pkw 32 (R.gn g)) ∧ ltOk (R.gn g)
    rw [kp _ _ (by omega), kp _ _ (by omega), kp _ _ (by omega), kl]
    exact ⟨this.1, this.2.1, this.2.2.1, hF g hg', this.2.2.2.2⟩
  · intro i hi
    obtain ⟨p0, a1, a2⟩ := h.la i hi
    exact ⟨p0, by rw [kp _ _ (by omega)]; exact a1, cLaw_ext a2 (fun z _ _ => ⟨kp _ _ (by omega), kp _ _ (by omega)⟩)⟩
  · have := h.lt
    show cLt P R.lt m'
    unfold cLt at this ⊢
    rw [kp 3 4 (by omega), kp 3 5 (by omega)]
    exact this
theorem c_addF0 {K V : Nat → Nat} {N : Nat → List Nat} {P : Nat → Nat} {R : Rd} {m : Mem} {t e : Nat} {a b : Int32} (h : cRd K V N P R m t e) (h8 : R.nf < 8) (hab : a < 0 ∨ (¬ a < 0 ∧ b < 0)) : ∃ m', fX7_addFoes 215 a b m = some m' ∧ cRd K V N P (Rd.mk R.T (R.nf + 1) R.sn R.gn R.lt) m' t e := by
  refine ⟨wI m 215 7 (nI (R.nf + 1)), ?_, h.f (F := R.T.fo) h8 (by rw [wI_i, if_pos ⟨rfl, rfl⟩]) (fun a i ha => by rw [wI_i, if_neg (by omega)]) (fun a i => rfl) (fun g hg => by rw [wI_i, if_neg (by omega)]; exact (h.gu g hg).2.2.2.1) h.fg⟩
  unfold fX7_addFoes
  rw [h.nf, nI_1, nm_ap]
  rcases hab with c | ⟨c1, c2⟩
  · rw [if_pos c]
  · rw [if_neg c1, if_pos c2]
theorem c_addF1 {K V : Nat → Nat} {N : Nat → List Nat} {P : Nat → Nat} {R : Rd} {m : Mem} {t e g o : Nat} (h : cRd K V N P R m t e) (h8 : R.nf < 8) (hg : g < R.T.nG) (ho : o < R.T.nG) : ∃ m', fX7_addFoes 215 (nI g) (nI o) m = some m' ∧ cRd K V N P (Rd.mk (Txt.mk R.T.nS R.T.nG R.T.lo R.T.wo R.T.hr R.T.hs R.T.fe (fo2 R.T.fo g o) R.T.de R.T.se R.T.la R.T.tl) (R.nf + 1) R.sn R.gn R.lt) m' t e := by
  have g7 := h.g7
  have bg : inb (nI g) 7 := inbN (by omega) (by omega)
  have cg : (nI g).toNatClampNeg = g := nI_clamp (by omega)
  have bo : inb (nI o) 7 := inbN (by omega) (by omega)
  have co : (nI o).toNatClampNeg = o := nI_clamp (by omega)
  have e1 : (wI m 215 7 (nI (R.nf + 1))).1 228 g = nI (bs (R.T.fo g) 7) := by rw [wI_i, if_neg (by omega)]; exact (h.gu g hg).2.2.2.1
  have v1 : nI (bs (R.T.fo g) 7) ||| nI (2 ^ o) = nI (bs (fun i => (i == o) || R.T.fo g i) 7) := by rw [nI_or, bs_set (by omega)]
  have e2 : (wI (wI m 215 7 (nI (R.nf + 1))) 228 g (nI (bs (fun i => (i == o) || R.T.fo g i) 7))).1 228 o = if o = g then nI (bs (fun i => (i == o) || R.T.fo g i) 7) else nI (bs (R.T.fo o) 7) := by
    rw [wI_i]
    by_cases c : o = g
    · rw [if_pos ⟨rfl, c⟩, if_pos c]
    · rw [if_neg (by omega), if_neg c, wI_i, if_neg (by omega)]; exact (h.gu o ho).2.2.2.1
  have v2 : (if o = g then nI (bs (fun i => (i == o) || R.T.fo g i) 7) else nI (bs (R.T.fo o) 7)) ||| nI (2 ^ g) = nI (bs (fo2 R.T.fo g o o) 7) := by
    by_cases c : o = g
    · subst c
      rw [if_pos rfl, nI_or, bs_set (by omega)]
      congr 1
      refine bs_ext (fun i _ => ?_)
      unfold fo2
      cases R.T.fo o i <;> cases (i == o) <;> simp
    · rw [if_neg c, nI_or, bs_set (by omega)]
      congr 1
      refine bs_ext (fun i _ => ?_)
      unfold fo2
      cases R.T.fo o i <;> cases (i == g) <;> simp [c]
  refine ⟨wI (wI (wI m 215 7 (nI (R.nf + 1))) 228 g (nI (bs (fun i => (i == o) || R.T.fo g i) 7))) 228 o (nI (bs (fo2 R.T.fo g o o) 7)), ?_, h.f (F := fo2 R.T.fo g o) h8 (by rw [wI_i, if_neg (by omega), wI_i, if_neg (by omega), wI_i, if_pos ⟨rfl, rfl⟩]) (fun a i ha => by rw [wI_i, if_neg (by omega), wI_i, if_neg (by omega), wI_i, if_neg (by omega)]) (fun a i => rfl) (fun z hz => ?_) (fun z y q => ?_)⟩
  · unfold fX7_addFoes
    rw [h.nf, nI_1, nm_ap, if_neg (show ¬ nI g < 0 by rw [L_0]; exact nI_nlt (by omega) (by omega)), if_neg (show ¬ nI o < 0 by rw [L_0]; exact nI_nlt (by omega) (by omega))]
    simp only [show (215 : Nat) + 13 = 228 from rfl, if_pos bg, if_pos bo, cg, co, nm_ap, nI_shl g (by omega), nI_shl o (by omega), e1, v1, e2, v2]
  · rw [wI_i]
    by_cases c : z = o
    · rw [if_pos ⟨rfl, c⟩, c]
    · rw [if_neg (by omega), wI_i]
      by_cases c2 : z = g
      · rw [if_pos ⟨rfl, c2⟩, c2]
        congr 1
        refine bs_ext (fun i _ => ?_)
        have c3 : ¬ g = o := by omega
        unfold fo2
        cases R.T.fo g i <;> cases (i == o) <;> simp [c3]
      · rw [if_neg (by omega), wI_i, if_neg (by omega), (h.gu z hz).2.2.2.1]
        congr 1
        refine bs_ext (fun i _ => ?_)
        have x1 : (z == g) = false := beq_eq_false_iff_ne.2 c2
        have x2 : (z == o) = false := beq_eq_false_iff_ne.2 c
        show R.T.fo z i = (R.T.fo z i || (z == g && i == o) || (z == o && i == g))
        rw [x1, x2, Bool.false_and, Bool.false_and, Bool.or_false, Bool.or_false]
  · unfold fo2 at q
    simp only [Bool.or_eq_true, Bool.and_eq_true, beq_iff_eq] at q
    rcases q with (q | q) | q
    · exact h.fg z y q
    · omega
    · omega
