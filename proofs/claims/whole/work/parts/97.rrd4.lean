/-! ===== the reference: a guest told ===== -/
def sG5 (q21 : Mem) : Option Mem := if (q21.1 243 13) = 0 then (if inb (q21.1 243 19) 2 then (if inb (q21.1 243 19) 2 then nm (wI q21 256 (q21.1 243 19).toNatClampNeg ((q21.1 256 (q21.1 243 19).toNatClampNeg) + 1)) fun μ22 => some μ22 else none) else none) else some q21
def sG4 (x13 tok : Int32) (q19 : Int32 × Mem) : Option Mem := if inb x13 14 then nm (wI q19.2 259 x13.toNatClampNeg q19.1) fun μ20 => (if inb (μ20.1 243 19) 2 then (fX11_endsName tok (10 + (μ20.1 256 (μ20.1 243 19).toNatClampNeg)) μ20).bind sG5 else none) else none
def sG3 (x13 tok : Int32) (q17 : Int32 × Mem) : Option Mem := if inb x13 14 then nm (wI q17.2 258 x13.toNatClampNeg q17.1) fun μ18 => (fX11_bounded 0 99 μ18).bind (sG4 x13 tok) else none
def sG2 (x13 tok : Int32) (q15 : Int32 × Mem) : Option Mem := if inb x13 14 then nm (wI q15.2 257 x13.toNatClampNeg q15.1) fun μ16 => (fX11_bounded 1 12 μ16).bind (sG3 x13 tok) else none
def sG1 (x13 : Int32) (q14 : Int32 × Mem) : Option Mem := (fX11_bounded 0 23 q14.2).bind (sG2 x13 q14.1)
def sG0 (q12 : Mem) : Option Mem := if 0 < (q12.1 243 13) then some q12 else (if inb (q12.1 243 19) 2 then nm ((7 * (q12.1 243 19)) + (q12.1 256 (q12.1 243 19).toNatClampNeg)) fun x13 => (fX11_named q12).bind (sG1 x13) else none)
theorem tell_gue {m : Mem} (h : inb (m.1 243 11) 403) (k : m.1 246 (m.1 243 11).toNatClampNeg = 21) (h19 : inb (m.1 243 19) 2) : fX11_tellOne m = (fX11_roomFor (m.1 256 (m.1 243 19).toNatClampNeg) 7 m).bind sG0 := by
  unfold fX11_tellOne
  rw [if_pos h, if_neg (show ¬ m.1 246 (m.1 243 11).toNatClampNeg = 20 by rw [k]; decide), if_pos k, if_pos h19]
  rfl
theorem f_sG4 {P : Nat → Nat} {v n : Nat} {m0 : Mem} {f t : Nat} {y : Int32 × Mem} {tok : Int32} (hn : n < 7) (h : rF P v m0 y.2 f t) : ∃ z, sG4 (nI (7 * v + n)) tok y = some z ∧ rF P v m0 z f t := by
  have v1 := h.2.2.2.2.1
  have s1 := h.w (a := 259) (x := 7 * v + n) (y := y.1) (by omega) (by unfold kc; omega)
  unfold sG4
  rw [if_pos (inbN (by omega) (by omega)), nI_clamp (by omega), nm_ap, s1.2.2.2.1, if_pos (inbN (by omega) (by omega)), f_en s1, bind_s]
  refine ⟨_, ?_, s1⟩
  unfold sG5
  rw [if_neg s1.p.2]
theorem f_sG3 {P : Nat → Nat} {v n : Nat} {m0 : Mem} {f t : Nat} {y : Int32 × Mem} {tok : Int32} (hn : n < 7) (h : rF P v m0 y.2 f t) : ∃ z, sG3 (nI (7 * v + n)) tok y = some z ∧ rF P v m0 z f t := by
  have v1 := h.2.2.2.2.1
  have s1 := h.w (a := 258) (x := 7 * v + n) (y := y.1) (by omega) (by unfold kc; omega)
  unfold sG3
  rw [if_pos (inbN (by omega) (by omega)), nI_clamp (by omega), nm_ap, f_bo s1, bind_s]
  exact f_sG4 hn s1
theorem f_sG2 {P : Nat → Nat} {v n : Nat} {m0 : Mem} {f t : Nat} {y : Int32 × Mem} {tok : Int32} (hn : n < 7) (h : rF P v m0 y.2 f t) : ∃ z, sG2 (nI (7 * v + n)) tok y = some z ∧ rF P v m0 z f t := by
  have v1 := h.2.2.2.2.1
  have s1 := h.w (a := 257) (x := 7 * v + n) (y := y.1) (by omega) (by unfold kc; omega)
  unfold sG2
  rw [if_pos (inbN (by omega) (by omega)), nI_clamp (by omega), nm_ap, f_bo s1, bind_s]
  exact f_sG3 hn s1
theorem f_sG1 {P : Nat → Nat} {v n : Nat} {m0 : Mem} {f t : Nat} {y : Int32 × Mem} (hn : n < 7) (h : rF P v m0 y.2 f t) : ∃ z, sG1 (nI (7 * v + n)) y = some z ∧ rF P v m0 z f t := by
  unfold sG1
  rw [f_bo h, bind_s]
  exact f_sG2 hn h
theorem rRd.aG {K V : Nat → Nat} {N : Nat → List Nat} {P : Nat → Nat} {v : Nat} {R : Rd} {m m' : Mem} {t b q x y z : Nat} {w : List Nat} (h : rRd K V N P v R m t b q) (c : R.T.nG < 7) (hw : ltOk w) (hx : m.1 257 (7 * v + R.T.nG) = nI x) (hy : m.1 258 (7 * v + R.T.nG) = nI y) (hz : m.1 259 (7 * v + R.T.nG) = nI z) (e : m' = wI (wI (wI (wJ m 251 (R.T.nS + R.T.nG) (lN (pkw 27 w))) 252 (R.T.nS + R.T.nG) (nI (10 + R.T.nG))) 243 20 (nI (R.T.nS + R.T.nG + 1))) 256 v (nI (R.T.nG + 1))) : rRd K V N P v (addG R w x y z) m' t b q := by
  have s4 := h.s4
  have kp : ∀ a z, ¬ ((a = 252 ∧ z = R.T.nS + R.T.nG) ∨ (a = 243 ∧ z = 20) ∨ (a = 256 ∧ z = v)) → m'.1 a z = m.1 a z := fun a z hz => by rw [e, wI_i, if_neg (by omega), wI_i, if_neg (by omega), wI_i, if_neg (by omega), wJ_i]
  have kl : ∀ a z, ¬ (a = 251 ∧ z = R.T.nS + R.T.nG) → m'.2 a z = m.2 a z := fun a z hz => by rw [e, wI_l, wI_l, wI_l, wJ_l, if_neg hz]
  have n1 : m'.1 252 (R.T.nS + R.T.nG) = nI (10 + R.T.nG) := by rw [e, wI_i, if_neg (by omega), wI_i, if_neg (by omega), wI_i, if_pos ⟨rfl, rfl⟩]
  have n2 : m'.2 251 (R.T.nS + R.T.nG) = lN (pkw 27 w) := by rw [e, wI_l, wI_l, wI_l, wJ_l, if_pos ⟨rfl, rfl⟩]
  have n3 : m'.1 243 20 = nI (R.T.nS + R.T.nG + 1) := by rw [e, wI_i, if_neg (by omega), wI_i, if_pos ⟨rfl, rfl⟩]
  have n4 : m'.1 256 v = nI (R.T.nG + 1) := by rw [e, wI_i, if_pos ⟨rfl, rfl⟩]
  obtain ⟨h1, h2, h3, h4, h5, h6, h7, h8, h9, h10, h11', h12, h13, h14, h15⟩ := h.ls
  refine ⟨⟨h1.fr (fun a y a1 a2 => ⟨kp a y (by omega), kl a y (by omega)⟩), by rw [kp _ _ (by omega)]; exact h2, h3, h4, by rw [kp _ _ (by omega)]; exact h5, by rw [kp _ _ (by omega)]; exact h6, by rw [kp _ _ (by omega)]; exact h7, h8, h9, by rw [kp _ _ (by omega)]; exact h10, h11', h12, by rw [kp _ _ (by omega)]; exact h13, h14, FL.rfl⟩, h.hb, by rw [kp _ _ (by omega)]; exact h.nS, h.s4, n4, c, by rw [kp _ _ (by omega)]; exact h.nf, h.f8, by rw [kp _ _ (by omega)]; exact h.de, by rw [kp _ _ (by omega)]; exact h.se, fun s hs => ?_, fun g hg => ?_, fun g hg => ?_, fun g o z => ?_, rLs_ext h.la (fun a y a1 a2 => kp a y (by omega)), ⟨n3, ?_⟩, h.lt.ext (kp _ _ (by omega)) (kp _ _ (by omega))⟩
  · rw [kp _ _ (by omega), kp _ _ (by omega)]; exact h.lo s hs
  · have hg' : g < R.T.nG + 1 := hg
    show m'.1 257 (7 * v + g) = nI (if g = R.T.nG then x else R.T.hr g) ∧ m'.1 258 (7 * v + g) = nI (if g = R.T.nG then y else R.T.hs g) ∧ m'.1 259 (7 * v + g) = nI (if g = R.T.nG then z else R.T.fe g)
    rw [kp _ _ (by omega), kp _ _ (by omega), kp _ _ (by omega)]
    by_cases d : g = R.T.nG
    · rw [if_pos d, if_pos d, if_pos d, d]; exact ⟨hx, hy, hz⟩
    · rw [if_neg d, if_neg d, if_neg d]; exact h.gu g (by omega)
  · rw [kp _ _ (by omega)]; exact h.fo g hg
  · have := h.fg g o z
    exact ⟨show g < R.T.nG + 1 by omega, show o < R.T.nG + 1 by omega⟩
  · obtain ⟨O, o⟩ := h.nm.2
    refine ⟨fun k => if k = R.T.nS + R.T.nG then 10 + R.T.nG else O k, fun k hk => ?_, fun s hs => ?_, fun g hg => ?_, fun j k hj hk j1 k1 => ?_⟩
    · have hk' : k < R.T.nS + (R.T.nG + 1) := hk
      show m'.1 252 k = nI (if k = R.T.nS + R.T.nG then 10 + R.T.nG else O k) ∧ m'.2 251 k = lN (pkw 27 (nmO (addG R w x y z) (if k = R.T.nS + R.T.nG then 10 + R.T.nG else O k))) ∧ ltOk (nmO (addG R w x y z) (if k = R.T.nS + R.T.nG then 10 + R.T.nG else O k)) ∧ ((if k = R.T.nS + R.T.nG then 10 + R.T.nG else O k) < R.T.nS ∨ (10 ≤ (if k = R.T.nS + R.T.nG then 10 + R.T.nG else O k) ∧ (if k = R.T.nS + R.T.nG then 10 + R.T.nG else O k) < 10 + (R.T.nG + 1)))
      by_cases d : k = R.T.nS + R.T.nG
      · rw [if_pos d, d, n1, n2]
        have en : nmO (addG R w x y z) (10 + R.T.nG) = w := by
          unfold nmO
          rw [if_neg (by omega), Nat.add_sub_cancel_left]
          show (if R.T.nG = R.T.nG then w else R.gn R.T.nG) = w
          rw [if_pos rfl]
        rw [en]
        exact ⟨rfl, rfl, hw, Or.inr ⟨by omega, by omega⟩⟩
      · rw [if_neg d, kp _ _ (by omega), kl _ _ (by omega)]
        obtain ⟨o1, o2, o3, o4⟩ := o.ea k (by omega)
        have en : nmO (addG R w x y z) (O k) = nmO R (O k) := by
          unfold nmO
          by_cases d2 : O k < 10
          · rw [if_pos d2, if_pos d2]
            rfl
          · rw [if_neg d2, if_neg d2]
            show (if O k - 10 = R.T.nG then w else R.gn (O k - 10)) = _
            rw [if_neg (by omega)]
        rw [en]
        exact ⟨o1, o2, o3, by
          rcases o4 with z | z
          · exact Or.inl z
          · exact Or.inr ⟨z.1, by omega⟩⟩
    · have hs' : s < R.T.nS := hs
      show ∃ k, k < R.T.nS + (R.T.nG + 1) ∧ (if k = R.T.nS + R.T.nG then 10 + R.T.nG else O k) = s
      obtain ⟨k, k1, k2⟩ := o.su s hs'
      exact ⟨k, by omega, by rw [if_neg (by omega)]; exact k2⟩
    · have hg' : g < R.T.nG + 1 := hg
      show ∃ k, k < R.T.nS + (R.T.nG + 1) ∧ (if k = R.T.nS + R.T.nG then 10 + R.T.nG else O k) = 10 + g
      by_cases d : g = R.T.nG
      · exact ⟨R.T.nS + R.T.nG, by omega, by rw [if_pos rfl, d]⟩
      · obtain ⟨k, k1, k2⟩ := o.gu g (by omega)
        exact ⟨k, by omega, by rw [if_neg (by omega)]; exact k2⟩
    · have hk' : k < R.T.nS + (R.T.nG + 1) := hk
      have j1' : 10 ≤ (if j = R.T.nS + R.T.nG then 10 + R.T.nG else O j) := j1
      have k1' : 10 ≤ (if k = R.T.nS + R.T.nG then 10 + R.T.nG else O k) := k1
      show (if j = R.T.nS + R.T.nG then 10 + R.T.nG else O j) < (if k = R.T.nS + R.T.nG then 10 + R.T.nG else O k)
      rw [if_neg (by omega)] at j1' ⊢
      by_cases d : k = R.T.nS + R.T.nG
      · rw [if_pos d]
        have := (o.ea j (by omega)).2.2.2
        omega
      · rw [if_neg d] at k1' ⊢
        exact o.mo j k hj (by omega) j1' k1'
theorem r_gueG {K V : Nat → Nat} {N : Nat → List Nat} {P : Nat → Nat} {v : Nat} {R : Rd} {m0 m : Mem} {t b q : Nat} (hK : ∀ t, K t < 34) (hV : ∀ t, V t < 2 ^ 31) (hN : ∀ t, K t = 2 → ltOk (N t)) (hP : gro K P) (h : rRd K V N P v R m t b q) (kp : KP v m0 m) (hKt : K t = 14) : rG P v m0 (gueP K V N R t) (fX11_tellOne m) id (fun R' t' m' => rRd K V N P v R' m' t' b q ∧ KP v m0 m') := by
  obtain ⟨h1, h2, h3, h4, h5, h6, h7, h8, h9, h10, h11, h12, h13, h14, h15⟩ := h.ls
  have tk := h1 t h3 h4
  have s4 := h.s4
  have g7 := h.g7
  rw [tell_gue (by rw [h2]; exact inbN (by omega) (by omega)) (by rw [h2, nI_clamp (by omega), tk.1, hKt]; rfl) (by rw [h13]; exact inbN (by omega) (by omega)), h13, nI_clamp (by omega), h.nG]
  unfold gueP
  by_cases c : R.T.nG < 7
  · rw [if_pos c, show fX11_roomFor (nI R.T.nG) 7 m = fX11_goesOn m from r_room (c := 7) h5 c (by omega)]
    refine rGB (r_goG hKt (by omega) h kp) ?_ ?_
    · intro y g t0 f
      have f' : rF P v m0 y g t0 := f
      exact ⟨y, by unfold sG0; rw [if_pos f'.p.1], f'⟩
    rintro u1 t1 m1 - ⟨rfl, l1, k1, -, s1, kp1⟩
    unfold sG0
    rw [if_neg (show ¬ 0 < m1.1 243 13 by rw [s1.ls.2.2.2.2.1]; decide), s1.ls.2.2.2.2.2.2.2.2.2.2.2.2.1, if_pos (inbN (by omega) (by omega)), nI_clamp (by omega), s1.nG, nm_ap, show (7 : Int32) * nI v + nI R.T.nG = nI (7 * v + R.T.nG) from nI_mula 7 v _]
    refine rGB (r_naG hK hN hP s1 kp1) (fun y g t0 f => f_sG1 c f) ?_
    rintro R1 t2 y1 - ⟨rfl, rfl, l2, k2, e2, s2, kp2, ks2⟩
    unfold sG1
    refine rGB (r_boG (a := 0) (c := 23) hK hV hP (by omega) (by omega) s2 kp2) (fun y g t0 f => f_sG2 c f) ?_
    rintro R2 t3 y2 - ⟨rfl, rfl, l3, k3, e3, s3, kp3, ks3⟩
    have s3' := s3.wl (c := 257) (j := 7 * v + R.T.nG) (x := y2.1) (Or.inr ⟨Or.inl rfl, rfl⟩)
    have kp3' : KP v m0 (wI y2.2 257 (7 * v + R.T.nG) y2.1) := kp3.wI (by unfold kc; omega)
    unfold sG2
    rw [if_pos (inbN (by omega) (by omega)), nI_clamp (by omega), nm_ap]
    refine rGB (r_boG (a := 1) (c := 12) hK hV hP (by omega) (by omega) s3' kp3') (fun y g t0 f => f_sG3 c f) ?_
    rintro R3 t4 y3 - ⟨rfl, rfl, l4, k4, e4, s4', kp4, ks4⟩
    have s4'' := s4'.wl (c := 258) (j := 7 * v + R.T.nG) (x := y3.1) (Or.inr ⟨Or.inr (Or.inl rfl), rfl⟩)
    have kp4' : KP v m0 (wI y3.2 258 (7 * v + R.T.nG) y3.1) := kp4.wI (by unfold kc; omega)
    unfold sG3
    rw [if_pos (inbN (by omega) (by omega)), nI_clamp (by omega), nm_ap]
    refine rGB (r_boG (a := 0) (c := 99) hK hV hP (by omega) (by omega) s4'' kp4') (fun y g t0 f => f_sG4 c f) ?_
    rintro R4 t5 y4 - ⟨rfl, rfl, l5, k5, e5, s5', kp5', ks5⟩
    have s5 := s5'.wl (c := 259) (j := 7 * v + R.T.nG) (x := y4.1) (Or.inr ⟨Or.inr (Or.inr rfl), rfl⟩)
    have kp5 : KP v m0 (wI y4.2 259 (7 * v + R.T.nG) y4.1) := kp5'.wI (by unfold kc; omega)
    have n5 : (wI y4.2 259 (7 * v + R.T.nG) y4.1).1 256 v = nI R.T.nG := s5.nG
    unfold sG4
    rw [if_pos (inbN (by omega) (by omega)), nI_clamp (by omega), nm_ap, s5.ls.2.2.2.2.2.2.2.2.2.2.2.2.1, if_pos (inbN (by omega) (by omega)), nI_clamp (by omega), n5, e2, show (10 : Int32) + nI R.T.nG = nI (10 + R.T.nG) from nI_add 10 _]
    refine rGB (r_enG hK s5 kp5 (s := t + 1) (by omega) (show R.T.nS + R.T.nG < 11 by omega)) ?_ ?_
    · intro y g t0 f
      have f' : rF P v m0 y g t0 := f
      exact ⟨y, by unfold sG5; rw [if_neg f'.p.2], f'⟩
    rintro u6 t6 m6 - ⟨rfl, l6, k6, e6, s6, kp6⟩
    refine ⟨fun R' t' z => ?_, fun f t' z => (by cases z)⟩
    cases z
    have e249 : (wI y4.2 259 (7 * v + R.T.nG) y4.1).2 249 (t + 1) = lN (pkw 27 (N (t + 1))) := (s5.ls.1 (t + 1) (by omega) (fun j hj => s5.ls.2.2.2.1 j (by omega))).2.2.2 k2
    have x1 : (wI (wI y4.2 259 (7 * v + R.T.nG) y4.1) 243 11 (nI (t + 1 + 1 + 1 + 1 + 1 + 1))).1 257 (7 * v + R.T.nG) = nI (V (t + 1 + 1)) := by
      rw [wI_i, if_neg (by omega), wI_i, if_neg (by omega), ks5.1 _ _ (by omega), wI_i, if_neg (by omega), ks4.1 _ _ (by omega), wI_i, if_pos ⟨rfl, rfl⟩]; exact e3
    have x2 : (wI (wI y4.2 259 (7 * v + R.T.nG) y4.1) 243 11 (nI (t + 1 + 1 + 1 + 1 + 1 + 1))).1 258 (7 * v + R.T.nG) = nI (V (t + 1 + 1 + 1)) := by
      rw [wI_i, if_neg (by omega), wI_i, if_neg (by omega), ks5.1 _ _ (by omega), wI_i, if_pos ⟨rfl, rfl⟩]; exact e4
    have x3 : (wI (wI y4.2 259 (7 * v + R.T.nG) y4.1) 243 11 (nI (t + 1 + 1 + 1 + 1 + 1 + 1))).1 259 (7 * v + R.T.nG) = nI (V (t + 1 + 1 + 1 + 1)) := by
      rw [wI_i, if_neg (by omega), wI_i, if_pos ⟨rfl, rfl⟩]; exact e5
    have fin := s6.aG (w := N (t + 1)) (x := V (t + 1 + 1)) (y := V (t + 1 + 1 + 1)) (z := V (t + 1 + 1 + 1 + 1)) c (hN _ k2) x1 x2 x3 rfl
    have q13 : m6.1 243 13 = 0 := by rw [e6, wI_i, if_neg (by omega), wI_i, if_neg (by omega)]; exact s6.ls.2.2.2.2.1
    have q19 : m6.1 243 19 = nI v := by rw [e6, wI_i, if_neg (by omega), wI_i, if_neg (by omega)]; exact s6.ls.2.2.2.2.2.2.2.2.2.2.2.2.1
    have q256 : m6.1 256 v = nI R.T.nG := by rw [e6, wI_i, if_neg (by omega), wI_i, if_neg (by omega)]; exact s6.nG
    unfold sG5
    rw [if_pos q13, q19, if_pos (inbN (by omega) (by omega)), if_pos (inbN (by omega) (by omega)), nI_clamp (by omega), q256, nI_1, nm_ap]
    refine ⟨_, rfl, ?_, kp6.wI (by unfold kc; omega)⟩
    rw [e6, e249]
    exact fin
  · have n4 : R.T.nG = 7 := by omega
    rw [if_neg c, n4, show fX11_roomFor (nI 7) 7 m = _ from r_room_f (P := P) (by omega) h2 h5 tk.2.1, bind_s]
    refine ⟨fun R' t' z => (by cases z), fun f t' z => ?_⟩
    cases z
    have f' : rF P v m0 (wI (wI m 243 13 2) 243 14 (nI (P t))) 2 t := by
      refine ⟨Or.inr rfl, ?_, ?_, ?_, h14, (kp.wI (by unfold kc; omega)).wI (by unfold kc; omega)⟩
      · rw [wI_i, if_neg (by omega), wI_i, if_pos ⟨rfl, rfl⟩]; rfl
      · rw [wI_i, if_pos ⟨rfl, rfl⟩]
      · rw [wI_i, if_neg (by omega), wI_i, if_neg (by omega)]; exact h13
    exact ⟨wI (wI m 243 13 2) 243 14 (nI (P t)), by unfold sG0; rw [if_pos f'.p.1], f'⟩
