/-! ===== the reference: foes told, whole ===== -/
theorem r_foeG {K V : Nat → Nat} {N : Nat → List Nat} {P : Nat → Nat} {v : Nat} {R : Rd} {m0 m : Mem} {t b q : Nat} (hK : ∀ t, K t < 34) (hN : ∀ t, K t = 2 → ltOk (N t)) (hP : gro K P) (h : rRd K V N P v R m t b q) (kp : KP v m0 m) (hKt : K t = 15) : rG P v m0 (foeP K N R t) (fX11_tellOne m) id (fun R' t' m' => rRd K V N P v R' m' t' b q ∧ KP v m0 m') := by
  obtain ⟨h1, h2, h3, h4, h5, h6, h7, h8, h9, h10, h11, h12, h13, h14, h15⟩ := h.ls
  have tk := h1 t h3 h4
  have g7 := h.g7
  have f8 := h.f8
  have hlt := h.lt
  rw [tell_foe (by rw [h2]; exact inbN (by omega) (by omega)) (by rw [h2, nI_clamp (by omega), tk.1, hKt]; rfl) (by rw [h13]; exact inbN (by omega) (by omega)), h13, nI_clamp (by omega), h.nf]
  unfold foeP
  by_cases c : R.nf < 8
  · rw [if_pos c, show fX11_roomFor (nI R.nf) 8 m = fX11_goesOn m from r_room (c := 8) h5 c (by omega)]
    refine rGB (r_goG hKt (by omega) h kp) ?_ ?_
    · intro y g t0 f
      have f' : rF P v m0 y g t0 := f
      exact ⟨y, by unfold sF0; rw [if_neg f'.p.2], f'⟩
    rintro u1 t1 m1 - ⟨rfl, l1, k1, -, s1, kp1⟩
    unfold sF0
    rw [if_pos s1.ls.2.2.2.2.1, un_s]
    show rG P v m0 _ ((fX11_known m1).bind fun q1 => (fX11_known q1.2).bind (sF1 q1.1 (q1.2.1 243 11))) id _
    refine rGB (r_knG hK hN hP s1 kp1) ?_ ?_
    · intro y g t0 f
      have f' : rF P v m0 y.2 g t0 := f
      exact ⟨y.2, by rw [f_kn f', bind_s, f_sF1 (y := (-1, y.2)) f'], f'⟩
    rintro u2 t2 ⟨ag, m2⟩ - ⟨rfl, l2, k2, kp2, cg⟩
    have ng : ∀ x, x < R.T.nG → ¬ nI x < 0 := fun x hx => by rw [L_0]; exact nI_nlt (by omega) (by omega)
    unfold addF
    rcases cg with ⟨g, fg, eg, s2⟩ | ⟨fg, eg, s2⟩
    · have hg := (fnd_lt fg).2
      have eg' : ag = nI g := eg
      have s2' : rRd K V N P v R m2 (t + 1 + 1) b q := s2
      have e11 : m2.1 243 11 = nI (t + 1 + 1) := s2'.ls.2.1
      show rG P v m0 _ ((fX11_known m2).bind (sF1 ag (m2.1 243 11))) id _
      rw [fg, eg', e11]
      refine rGB (r_knG hK hN hP s2' kp2) (fun y g t0 f => ⟨y.2, f_sF1 f, f⟩) ?_
      rintro u3 t3 ⟨ao, m3⟩ - ⟨rfl, l3, k3, kp3, co⟩
      rcases co with ⟨o, fo, eo, s3⟩ | ⟨fo, eo, s3⟩
      · have ho := (fnd_lt fo).2
        have eo' : ao = nI o := eo
        have s3' : rRd K V N P v R m3 (t + 1 + 1 + 1) b q := s3
        have tk2 := s3'.ls.1 (t + 1 + 1) (by omega) (fun j hj => s3'.ls.2.2.2.1 j (by omega))
        obtain ⟨m4, x1, x2, x3⟩ := r_wrong (f := 3) (s := t + 1 + 1) (by omega) s3'.ls.2.2.2.2.1 tk2.2.1 (fun i hi => hP.1 i (t + 1 + 1) hi (fun j hj => s3'.ls.2.2.2.1 j (by omega))) (hP.2 _) (by omega) s3'.lt (fun x z1 z2 => by
          rw [z1] at hlt
          have := hlt.2.2.2.2
          omega)
        have s4 := s3'.k x3.s (by rw [x3.1 _ _ (by omega)]; exact s3'.ls.2.1) (by omega) (by omega) s3'.ls.2.2.2.1 x2
        have kp4 : KP v m0 m4 := x3.s.kp kp3
        unfold sF1
        show rG P v m0 _ (if m3.1 243 13 = 0 then (if nI g < 0 then fX11_tellFoes_j35 (nI g) (nI (t + 1 + 1)) ao 0 m3 else (if ao < 0 then fX11_tellFoes_j35 (nI g) (nI (t + 1 + 1)) ao 0 m3 else fX11_tellFoes_j35 (nI g) (nI (t + 1 + 1)) ao 1 m3)) else fX11_tellFoes_j35 (nI g) (nI (t + 1 + 1)) ao 0 m3) id _
        rw [fo, eo', if_pos s3'.ls.2.2.2.2.1, if_neg (ng g (by omega)), if_neg (ng o (by omega))]
        unfold fX11_tellFoes_j35
        rw [if_neg (show ¬ (1 : Int32) = 0 by decide)]
        have fin4 := r_75b (g := g) (o := o) hK s4 kp4 c (show g < R.T.nG by omega) (show o < R.T.nG by omega)
        by_cases e : g = o
        · rw [if_pos (by rw [e]), show fX11_wrong 3 (nI (t + 1 + 1)) m3 = some m4 from x1, bind_s]
          simp only [show (g == o) = true from beq_iff_eq.2 e, Bool.true_or]
          exact fin4
        · have bg : inb (nI (7 * v + g)) 14 := inbN (by omega) (by omega)
          have cg : (nI (7 * v + g)).toNatClampNeg = 7 * v + g := nI_clamp (by omega)
          rw [if_neg (fun z => e ((nI_eq (by omega) (by omega)).1 z)), s3'.ls.2.2.2.2.2.2.2.2.2.2.2.2.1, show (7 : Int32) * nI v + nI g = nI (7 * v + g) from nI_mula 7 v g, if_pos bg, cg, s3'.fo g (by omega), nI_bit (bs_lt31 _ (by omega)) (by omega)]
          have hb : (bs (R.T.fo g) 7).testBit o = R.T.fo g o := by rw [bs_bit, decide_eq_true (show o < 7 by omega), Bool.true_and]
          simp only [show (g == o) = false from beq_eq_false_iff_ne.2 e, Bool.false_or]
          cases hd : R.T.fo g o with
          | true =>
            rw [if_pos (bit_one.2 (by rw [hb, hd])), show fX11_wrong 3 (nI (t + 1 + 1)) m3 = some m4 from x1, bind_s]
            exact fin4
          | false =>
            rw [if_neg (fun q => by have := bit_one.1 q; rw [hb, hd] at this; cases this), late_no]
            exact r_75b (g := g) (o := o) hK s3' kp3 c (show g < R.T.nG by omega) (show o < R.T.nG by omega)
      · have eo' : ao = -1 := eo
        have s3' : rRd K V N P v (setLt R (late R.lt true 4 (t + 1 + 1))) m3 (t + 1 + 1 + 1) b q := s3
        unfold sF1
        show rG P v m0 _ (if m3.1 243 13 = 0 then (if nI g < 0 then fX11_tellFoes_j35 (nI g) (nI (t + 1 + 1)) ao 0 m3 else (if ao < 0 then fX11_tellFoes_j35 (nI g) (nI (t + 1 + 1)) ao 0 m3 else fX11_tellFoes_j35 (nI g) (nI (t + 1 + 1)) ao 1 m3)) else fX11_tellFoes_j35 (nI g) (nI (t + 1 + 1)) ao 0 m3) id _
        rw [fo, eo', if_pos s3'.ls.2.2.2.2.1, if_neg (ng g (by omega)), if_pos (show (-1 : Int32) < 0 by decide)]
        unfold fX11_tellFoes_j35
        rw [if_pos rfl]
        exact r_75a hK s3' kp3 c
    · have eg' : ag = -1 := eg
      have s2' : rRd K V N P v (setLt R (late R.lt true 4 (t + 1))) m2 (t + 1 + 1) b q := s2
      have e11 : m2.1 243 11 = nI (t + 1 + 1) := s2'.ls.2.1
      show rG P v m0 _ ((fX11_known m2).bind (sF1 ag (m2.1 243 11))) id _
      rw [fg, eg', e11]
      refine rGB (r_knG hK hN hP s2' kp2) (fun y g t0 f => ⟨y.2, f_sF1 f, f⟩) ?_
      rintro u3 t3 ⟨ao, m3⟩ - ⟨rfl, l3, k3, kp3, co⟩
      have s3' : rRd K V N P v (setLt R (late R.lt true 4 (t + 1))) m3 (t + 1 + 1 + 1) b q := by
        rcases co with ⟨o, fo, eo, s3⟩ | ⟨fo, eo, s3⟩
        · exact s3
        · have e : late (setLt R (late R.lt true 4 (t + 1))).lt true 4 (t + 1 + 1) = late R.lt true 4 (t + 1) := late2 _ _ _ _ _ _
          rw [e] at s3
          exact s3
      unfold sF1
      show rG P v m0 _ (if m3.1 243 13 = 0 then (if (-1 : Int32) < 0 then fX11_tellFoes_j35 (-1) (nI (t + 1 + 1)) ao 0 m3 else (if ao < 0 then fX11_tellFoes_j35 (-1) (nI (t + 1 + 1)) ao 0 m3 else fX11_tellFoes_j35 (-1) (nI (t + 1 + 1)) ao 1 m3)) else fX11_tellFoes_j35 (-1) (nI (t + 1 + 1)) ao 0 m3) id _
      rw [if_pos s3'.ls.2.2.2.2.1, if_pos (show (-1 : Int32) < 0 by decide)]
      unfold fX11_tellFoes_j35
      rw [if_pos rfl]
      exact r_75a hK s3' kp3 c
  · have n4 : R.nf = 8 := by omega
    rw [if_neg c, n4, show fX11_roomFor (nI 8) 8 m = _ from r_room_f (P := P) (by omega) h2 h5 tk.2.1, bind_s]
    refine ⟨fun R' t' z => (by cases z), fun f t' z => ?_⟩
    cases z
    have f' : rF P v m0 (wI (wI m 243 13 2) 243 14 (nI (P t))) 2 t := by
      refine ⟨Or.inr rfl, ?_, ?_, ?_, h14, (kp.wI (by unfold kc; omega)).wI (by unfold kc; omega)⟩
      · rw [wI_i, if_neg (by omega), wI_i, if_pos ⟨rfl, rfl⟩]; rfl
      · rw [wI_i, if_pos ⟨rfl, rfl⟩]
      · rw [wI_i, if_neg (by omega), wI_i, if_neg (by omega)]; exact h13
    exact ⟨wI (wI m 243 13 2) 243 14 (nI (P t)), by unfold sF0; rw [if_neg f'.p.2], f'⟩
