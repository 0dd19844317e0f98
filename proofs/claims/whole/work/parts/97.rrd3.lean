/-! ===== the reference: a Sunday told ===== -/
theorem un_s (X : Option Mem) : (X.bind fun q => some q) = X := by cases X <;> rfl
theorem r_room {m : Mem} {a c : Nat} (h13 : m.1 243 13 = 0) (hc : a < c) (hc2 : c < 2 ^ 31) : fX11_roomFor (nI a) (nI c) m = fX11_goesOn m := by
  unfold fX11_roomFor
  rw [if_neg (fun z => by have := (nI_eq (by omega) (by omega)).1 z; omega), if_pos h13, un_s]
theorem r_room_f {P : Nat → Nat} {m : Mem} {a t : Nat} (ht : t ≤ 402) (h11 : m.1 243 11 = nI t) (h13 : m.1 243 13 = 0) (hp : m.1 247 t = nI (P t)) : fX11_roomFor (nI a) (nI a) m = some (wI (wI m 243 13 2) 243 14 (nI (P t))) := by
  unfold fX11_roomFor
  rw [if_pos rfl, r_fail ht h11 h13 hp, bind_s, if_neg (show ¬ (wI (wI m 243 13 2) 243 14 (nI (P t))).1 243 13 = 0 by rw [wI_i, if_neg (by omega), wI_i, if_pos ⟨rfl, rfl⟩]; decide)]
def sS4 (q9 : Mem) : Option Mem := if (q9.1 243 13) = 0 then (if inb (q9.1 243 19) 2 then (if inb (q9.1 243 19) 2 then nm (wI q9 253 (q9.1 243 19).toNatClampNeg ((q9.1 253 (q9.1 243 19).toNatClampNeg) + 1)) fun μ10 => some μ10 else none) else none) else some q9
def sS3 (x3 tok : Int32) (q7 : Int32 × Mem) : Option Mem := if inb x3 8 then nm (wI q7.2 255 x3.toNatClampNeg q7.1) fun μ8 => (if inb (μ8.1 243 19) 2 then (fX11_endsName tok (μ8.1 253 (μ8.1 243 19).toNatClampNeg) μ8).bind sS4 else none) else none
def sS2 (x3 tok : Int32) (q5 : Int32 × Mem) : Option Mem := if inb x3 8 then nm (wI q5.2 254 x3.toNatClampNeg q5.1) fun μ6 => (fX11_bounded 0 99 μ6).bind (sS3 x3 tok) else none
def sS1 (x3 : Int32) (q4 : Int32 × Mem) : Option Mem := (fX11_bounded 1 24 q4.2).bind (sS2 x3 q4.1)
def sS0 (q2 : Mem) : Option Mem := if 0 < (q2.1 243 13) then some q2 else (if inb (q2.1 243 19) 2 then nm ((4 * (q2.1 243 19)) + (q2.1 253 (q2.1 243 19).toNatClampNeg)) fun x3 => (fX11_named q2).bind (sS1 x3) else none)
theorem tell_sun {m : Mem} (h : inb (m.1 243 11) 403) (k : m.1 246 (m.1 243 11).toNatClampNeg = 20) (h19 : inb (m.1 243 19) 2) : fX11_tellOne m = (fX11_roomFor (m.1 253 (m.1 243 19).toNatClampNeg) 4 m).bind sS0 := by
  unfold fX11_tellOne
  rw [if_pos h, if_pos k, if_pos h19]
  rfl
theorem f_en {P : Nat → Nat} {v : Nat} {m0 m : Mem} {f t : Nat} {x y : Int32} (h : rF P v m0 m f t) : fX11_endsName x y m = some m := by
  unfold fX11_endsName
  rw [f_mu h, bind_s, if_pos h.p.1]
theorem f_sS3 {P : Nat → Nat} {v n : Nat} {m0 : Mem} {f t : Nat} {y : Int32 × Mem} {tok : Int32} (hn : n < 4) (h : rF P v m0 y.2 f t) : ∃ z, sS3 (nI (4 * v + n)) tok y = some z ∧ rF P v m0 z f t := by
  have v1 := h.2.2.2.2.1
  have s1 := h.w (a := 255) (x := 4 * v + n) (y := y.1) (by omega) (by unfold kc; omega)
  unfold sS3
  rw [if_pos (inbN (by omega) (by omega)), nI_clamp (by omega), nm_ap, s1.2.2.2.1, if_pos (inbN (by omega) (by omega)), f_en s1, bind_s]
  refine ⟨_, ?_, s1⟩
  unfold sS4
  rw [if_neg s1.p.2]
theorem f_sS2 {P : Nat → Nat} {v n : Nat} {m0 : Mem} {f t : Nat} {y : Int32 × Mem} {tok : Int32} (hn : n < 4) (h : rF P v m0 y.2 f t) : ∃ z, sS2 (nI (4 * v + n)) tok y = some z ∧ rF P v m0 z f t := by
  have v1 := h.2.2.2.2.1
  have s1 := h.w (a := 254) (x := 4 * v + n) (y := y.1) (by omega) (by unfold kc; omega)
  unfold sS2
  rw [if_pos (inbN (by omega) (by omega)), nI_clamp (by omega), nm_ap, f_bo s1, bind_s]
  exact f_sS3 hn s1
theorem f_sS1 {P : Nat → Nat} {v n : Nat} {m0 : Mem} {f t : Nat} {y : Int32 × Mem} (hn : n < 4) (h : rF P v m0 y.2 f t) : ∃ z, sS1 (nI (4 * v + n)) y = some z ∧ rF P v m0 z f t := by
  unfold sS1
  rw [f_bo h, bind_s]
  exact f_sS2 hn h
/-- a cell of no one yet -/
theorem rRd.wl {K V : Nat → Nat} {N : Nat → List Nat} {P : Nat → Nat} {v : Nat} {R : Rd} {m : Mem} {t b q c j : Nat} {x : Int32} (h : rRd K V N P v R m t b q) (hc : ((c = 254 ∨ c = 255) ∧ j = 4 * v + R.T.nS) ∨ ((c = 257 ∨ c = 258 ∨ c = 259) ∧ j = 7 * v + R.T.nG)) : rRd K V N P v R (wI m c j x) t b q := by
  have kp : ∀ a y, ¬ (a = c ∧ y = j) → (wI m c j x).1 a y = m.1 a y := fun a y hay => by rw [wI_i, if_neg hay]
  obtain ⟨h1, h2, h3, h4, h5, h6, h7, h8, h9, h10, h11', h12, h13, h14, h15⟩ := h.ls
  refine ⟨⟨h1.fr (fun a y a1 a2 => ⟨kp a y (by omega), rfl⟩), by rw [kp _ _ (by omega)]; exact h2, h3, h4, by rw [kp _ _ (by omega)]; exact h5, by rw [kp _ _ (by omega)]; exact h6, by rw [kp _ _ (by omega)]; exact h7, h8, h9, by rw [kp _ _ (by omega)]; exact h10, h11', h12, by rw [kp _ _ (by omega)]; exact h13, h14, FL.rfl⟩, h.hb, by rw [kp _ _ (by omega)]; exact h.nS, h.s4, by rw [kp _ _ (by omega)]; exact h.nG, h.g7, by rw [kp _ _ (by omega)]; exact h.nf, h.f8, by rw [kp _ _ (by omega)]; exact h.de, by rw [kp _ _ (by omega)]; exact h.se, fun s hs => ?_, fun g hg => ?_, fun g hg => ?_, h.fg, rLs_ext h.la (fun a y a1 a2 => kp a y (by omega)), ⟨by rw [kp _ _ (by omega)]; exact h.nm.1, ?_⟩, h.lt.ext (kp _ _ (by omega)) (kp _ _ (by omega))⟩
  · rw [kp _ _ (by omega), kp _ _ (by omega)]; exact h.lo s hs
  · rw [kp _ _ (by omega), kp _ _ (by omega), kp _ _ (by omega)]; exact h.gu g hg
  · rw [kp _ _ (by omega)]; exact h.fo g hg
  · obtain ⟨O, o⟩ := h.nm.2
    refine ⟨O, fun k hk => ?_, o.su, o.gu, o.mo⟩
    rw [kp _ _ (by omega)]; exact o.ea k hk
theorem rRd.aS {K V : Nat → Nat} {N : Nat → List Nat} {P : Nat → Nat} {v : Nat} {R : Rd} {m m' : Mem} {t b q x y : Nat} {w : List Nat} (h : rRd K V N P v R m t b q) (c : R.T.nS < 4) (hw : ltOk w) (hx : m.1 254 (4 * v + R.T.nS) = nI x) (hy : m.1 255 (4 * v + R.T.nS) = nI y) (e : m' = wI (wI (wI (wJ m 251 (R.T.nS + R.T.nG) (lN (pkw 27 w))) 252 (R.T.nS + R.T.nG) (nI R.T.nS)) 243 20 (nI (R.T.nS + R.T.nG + 1))) 253 v (nI (R.T.nS + 1))) : rRd K V N P v (addS R w x y) m' t b q := by
  have kp : ∀ a z, ¬ ((a = 252 ∧ z = R.T.nS + R.T.nG) ∨ (a = 243 ∧ z = 20) ∨ (a = 253 ∧ z = v)) → m'.1 a z = m.1 a z := fun a z hz => by rw [e, wI_i, if_neg (by omega), wI_i, if_neg (by omega), wI_i, if_neg (by omega), wJ_i]
  have kl : ∀ a z, ¬ (a = 251 ∧ z = R.T.nS + R.T.nG) → m'.2 a z = m.2 a z := fun a z hz => by rw [e, wI_l, wI_l, wI_l, wJ_l, if_neg hz]
  have n1 : m'.1 252 (R.T.nS + R.T.nG) = nI R.T.nS := by rw [e, wI_i, if_neg (by omega), wI_i, if_neg (by omega), wI_i, if_pos ⟨rfl, rfl⟩]
  have n2 : m'.2 251 (R.T.nS + R.T.nG) = lN (pkw 27 w) := by rw [e, wI_l, wI_l, wI_l, wJ_l, if_pos ⟨rfl, rfl⟩]
  have n3 : m'.1 243 20 = nI (R.T.nS + R.T.nG + 1) := by rw [e, wI_i, if_neg (by omega), wI_i, if_pos ⟨rfl, rfl⟩]
  have n4 : m'.1 253 v = nI (R.T.nS + 1) := by rw [e, wI_i, if_pos ⟨rfl, rfl⟩]
  obtain ⟨h1, h2, h3, h4, h5, h6, h7, h8, h9, h10, h11', h12, h13, h14, h15⟩ := h.ls
  have cnt : R.T.nS + 1 + R.T.nG = R.T.nS + R.T.nG + 1 := by omega
  refine ⟨⟨h1.fr (fun a y a1 a2 => ⟨kp a y (by omega), kl a y (by omega)⟩), by rw [kp _ _ (by omega)]; exact h2, h3, h4, by rw [kp _ _ (by omega)]; exact h5, by rw [kp _ _ (by omega)]; exact h6, by rw [kp _ _ (by omega)]; exact h7, h8, h9, by rw [kp _ _ (by omega)]; exact h10, h11', h12, by rw [kp _ _ (by omega)]; exact h13, h14, FL.rfl⟩, h.hb, n4, c, by rw [kp _ _ (by omega)]; exact h.nG, h.g7, by rw [kp _ _ (by omega)]; exact h.nf, h.f8, by rw [kp _ _ (by omega)]; exact h.de, by rw [kp _ _ (by omega)]; exact h.se, fun s hs => ?_, fun g hg => ?_, fun g hg => ?_, h.fg, rLs_ext h.la (fun a y a1 a2 => kp a y (by omega)), ⟨?_, ?_⟩, h.lt.ext (kp _ _ (by omega)) (kp _ _ (by omega))⟩
  · have hs' : s < R.T.nS + 1 := hs
    show m'.1 254 (4 * v + s) = nI (if s = R.T.nS then x else R.T.lo s) ∧ m'.1 255 (4 * v + s) = nI (if s = R.T.nS then y else R.T.wo s)
    rw [kp _ _ (by omega), kp _ _ (by omega)]
    by_cases d : s = R.T.nS
    · rw [if_pos d, if_pos d, d]; exact ⟨hx, hy⟩
    · rw [if_neg d, if_neg d]; exact h.lo s (by omega)
  · rw [kp _ _ (by omega), kp _ _ (by omega), kp _ _ (by omega)]; exact h.gu g hg
  · rw [kp _ _ (by omega)]; exact h.fo g hg
  · show m'.1 243 20 = nI (R.T.nS + 1 + R.T.nG)
    rw [cnt]; exact n3
  · obtain ⟨O, o⟩ := h.nm.2
    refine ⟨fun k => if k = R.T.nS + R.T.nG then R.T.nS else O k, fun k hk => ?_, fun s hs => ?_, fun g hg => ?_, fun j k hj hk j1 k1 => ?_⟩
    · have hk' : k < R.T.nS + 1 + R.T.nG := hk
      show m'.1 252 k = nI (if k = R.T.nS + R.T.nG then R.T.nS else O k) ∧ m'.2 251 k = lN (pkw 27 (nmO (addS R w x y) (if k = R.T.nS + R.T.nG then R.T.nS else O k))) ∧ ltOk (nmO (addS R w x y) (if k = R.T.nS + R.T.nG then R.T.nS else O k)) ∧ ((if k = R.T.nS + R.T.nG then R.T.nS else O k) < R.T.nS + 1 ∨ (10 ≤ (if k = R.T.nS + R.T.nG then R.T.nS else O k) ∧ (if k = R.T.nS + R.T.nG then R.T.nS else O k) < 10 + R.T.nG))
      by_cases d : k = R.T.nS + R.T.nG
      · rw [if_pos d, d, n1, n2]
        have en : nmO (addS R w x y) R.T.nS = w := by
          unfold nmO
          rw [if_pos (by omega)]
          show (if R.T.nS = R.T.nS then w else R.sn R.T.nS) = w
          rw [if_pos rfl]
        rw [en]
        exact ⟨rfl, rfl, hw, Or.inl (by omega)⟩
      · rw [if_neg d, kp _ _ (by omega), kl _ _ (by omega)]
        obtain ⟨o1, o2, o3, o4⟩ := o.ea k (by omega)
        have en : nmO (addS R w x y) (O k) = nmO R (O k) := by
          unfold nmO
          by_cases d2 : O k < 10
          · rw [if_pos d2, if_pos d2]
            show (if O k = R.T.nS then w else R.sn (O k)) = _
            rw [if_neg (by omega)]
          · rw [if_neg d2, if_neg d2]
            rfl
        rw [en]
        exact ⟨o1, o2, o3, by
          rcases o4 with z | z
          · exact Or.inl (by omega)
          · exact Or.inr z⟩
    · have hs' : s < R.T.nS + 1 := hs
      show ∃ k, k < R.T.nS + 1 + R.T.nG ∧ (if k = R.T.nS + R.T.nG then R.T.nS else O k) = s
      by_cases d : s = R.T.nS
      · exact ⟨R.T.nS + R.T.nG, by omega, by rw [if_pos rfl, d]⟩
      · obtain ⟨k, k1, k2⟩ := o.su s (by omega)
        exact ⟨k, by omega, by rw [if_neg (by omega)]; exact k2⟩
    · have hg' : g < R.T.nG := hg
      show ∃ k, k < R.T.nS + 1 + R.T.nG ∧ (if k = R.T.nS + R.T.nG then R.T.nS else O k) = 10 + g
      obtain ⟨k, k1, k2⟩ := o.gu g hg'
      exact ⟨k, by omega, by rw [if_neg (by omega)]; exact k2⟩
    · have hk' : k < R.T.nS + 1 + R.T.nG := hk
      have j1' : 10 ≤ (if j = R.T.nS + R.T.nG then R.T.nS else O j) := j1
      have k1' : 10 ≤ (if k = R.T.nS + R.T.nG then R.T.nS else O k) := k1
      show (if j = R.T.nS + R.T.nG then R.T.nS else O j) < (if k = R.T.nS + R.T.nG then R.T.nS else O k)
      by_cases d : k = R.T.nS + R.T.nG
      · rw [if_pos d] at k1'; omega
      · rw [if_neg d] at k1' ⊢
        rw [if_neg (by omega)] at j1' ⊢
        exact o.mo j k hj (by omega) j1' k1'
theorem r_enG {K V : Nat → Nat} {N : Nat → List Nat} {P : Nat → Nat} {v : Nat} {R : Rd} {m0 m : Mem} {t b q s : Nat} {x : Int32} (hK : ∀ t, K t < 34) (h : rRd K V N P v R m t b q) (kp : KP v m0 m) (hs : s < 400) (hM : R.T.nS + R.T.nG < 11) : rG P v m0 (tkP K 4 t) (fX11_endsName (nI s) x m) id (fun _ t' m' => t' = t + 1 ∧ t < 400 ∧ K t = 4 ∧ m' = wI (wI (wJ (wI m 243 11 (nI (t + 1))) 251 (R.T.nS + R.T.nG) (m.2 249 s)) 252 (R.T.nS + R.T.nG) x) 243 20 (nI (R.T.nS + R.T.nG + 1)) ∧ rRd K V N P v R (wI m 243 11 (nI (t + 1))) (t + 1) b q ∧ KP v m0 m') := by
  unfold fX11_endsName
  have pbu : tkP K 4 t = pb (tkP K 4 t) fun u t1 => .ok (u, t1) := by
    cases tkP K 4 t <;> rfl
  rw [pbu]
  refine rGB (r_muG (k := 4) (k' := 4) hK (by omega) (kR_b _ (hK t)).2.2.1 (by omega) h kp) ?_ ?_
  · intro y g t0 f
    have f' : rF P v m0 y g t0 := f
    exact ⟨y, by rw [if_pos f'.p.1], f'⟩
  rintro u t1 m1 - ⟨rfl, lt, k4, e1, s1, kp1⟩
  refine ⟨fun u' t' z => ?_, fun f t' z => (by cases z)⟩
  cases z
  have h20 : m1.1 243 20 = nI (R.T.nS + R.T.nG) := s1.nm.1
  have w20 : ∀ y, (wJ m1 251 (R.T.nS + R.T.nG) y).1 243 20 = nI (R.T.nS + R.T.nG) := fun y => h20
  have z20 : ∀ y, (wI (wJ m1 251 (R.T.nS + R.T.nG) y) 252 (R.T.nS + R.T.nG) x).1 243 20 = nI (R.T.nS + R.T.nG) := fun y => by rw [wI_i, if_neg (by omega)]; exact h20
  have bM : inb (nI (R.T.nS + R.T.nG)) 11 := inbN (by omega) (by omega)
  have cM : (nI (R.T.nS + R.T.nG)).toNatClampNeg = R.T.nS + R.T.nG := nI_clamp (by omega)
  rw [if_neg (show ¬ 0 < m1.1 243 13 by rw [s1.ls.2.2.2.2.1]; decide), if_pos (inbN (by omega) (by omega)), nI_clamp (by omega)]
  simp only [h20, if_pos bM, cM, nm_ap, w20, z20, nI_1]
  refine ⟨_, rfl, trivial, lt, k4, ?_, ?_, ?_⟩
  · rw [e1]; rfl
  · rw [← e1]; exact s1
  · exact ((KP.of (m' := wJ m1 251 (R.T.nS + R.T.nG) (m1.2 249 s)) kp1 (fun a x ha => rfl)).wI (by unfold kc; omega)).wI (by unfold kc; omega)
theorem nI_mula (a v n : Nat) : nI a * nI v + nI n = nI (a * v + n) := by rw [pk_mul, nI_add]
theorem r_sunG {K V : Nat → Nat} {N : Nat → List Nat} {P : Nat → Nat} {v : Nat} {R : Rd} {m0 m : Mem} {t b q : Nat} (hK : ∀ t, K t < 34) (hV : ∀ t, V t < 2 ^ 31) (hN : ∀ t, K t = 2 → ltOk (N t)) (hP : gro K P) (h : rRd K V N P v R m t b q) (kp : KP v m0 m) (hKt : K t = 13) : rG P v m0 (sunP K V N R t) (fX11_tellOne m) id (fun R' t' m' => rRd K V N P v R' m' t' b q ∧ KP v m0 m') := by
  obtain ⟨h1, h2, h3, h4, h5, h6, h7, h8, h9, h10, h11, h12, h13, h14, h15⟩ := h.ls
  have tk := h1 t h3 h4
  have s4 := h.s4
  have g7 := h.g7
  rw [tell_sun (by rw [h2]; exact inbN (by omega) (by omega)) (by rw [h2, nI_clamp (by omega), tk.1, hKt]; rfl) (by rw [h13]; exact inbN (by omega) (by omega)), h13, nI_clamp (by omega), h.nS]
  unfold sunP
  by_cases c : R.T.nS < 4
  · rw [if_pos c, show fX11_roomFor (nI R.T.nS) 4 m = fX11_goesOn m from r_room (c := 4) h5 c (by omega)]
    refine rGB (r_goG hKt (by omega) h kp) ?_ ?_
    · intro y g t0 f
      have f' : rF P v m0 y g t0 := f
      exact ⟨y, by unfold sS0; rw [if_pos f'.p.1], f'⟩
    rintro u1 t1 m1 - ⟨rfl, l1, k1, -, s1, kp1⟩
    unfold sS0
    rw [if_neg (show ¬ 0 < m1.1 243 13 by rw [s1.ls.2.2.2.2.1]; decide), s1.ls.2.2.2.2.2.2.2.2.2.2.2.2.1, if_pos (inbN (by omega) (by omega)), nI_clamp (by omega), s1.nS, nm_ap, show (4 : Int32) * nI v + nI R.T.nS = nI (4 * v + R.T.nS) from nI_mula 4 v _]
    refine rGB (r_naG hK hN hP s1 kp1) (fun y g t0 f => f_sS1 c f) ?_
    rintro R1 t2 y1 - ⟨rfl, rfl, l2, k2, e2, s2, kp2, ks2⟩
    unfold sS1
    refine rGB (r_boG (a := 1) (c := 24) hK hV hP (by omega) (by omega) s2 kp2) (fun y g t0 f => f_sS2 c f) ?_
    rintro R2 t3 y2 - ⟨rfl, rfl, l3, k3, e3, s3, kp3, ks3⟩
    have s3' := s3.wl (c := 254) (j := 4 * v + R.T.nS) (x := y2.1) (Or.inl ⟨Or.inl rfl, rfl⟩)
    have kp3' : KP v m0 (wI y2.2 254 (4 * v + R.T.nS) y2.1) := kp3.wI (by unfold kc; omega)
    unfold sS2
    rw [if_pos (inbN (by omega) (by omega)), nI_clamp (by omega), nm_ap]
    refine rGB (r_boG (a := 0) (c := 99) hK hV hP (by omega) (by omega) s3' kp3') (fun y g t0 f => f_sS3 c f) ?_
    rintro R3 t4 y3 - ⟨rfl, rfl, l4, k4, e4, s4', kp4, ks4⟩
    have s5 := s4'.wl (c := 255) (j := 4 * v + R.T.nS) (x := y3.1) (Or.inl ⟨Or.inr rfl, rfl⟩)
    have kp5 : KP v m0 (wI y3.2 255 (4 * v + R.T.nS) y3.1) := kp4.wI (by unfold kc; omega)
    have n5 : (wI y3.2 255 (4 * v + R.T.nS) y3.1).1 253 v = nI R.T.nS := s5.nS
    unfold sS3
    rw [if_pos (inbN (by omega) (by omega)), nI_clamp (by omega), nm_ap, s5.ls.2.2.2.2.2.2.2.2.2.2.2.2.1, if_pos (inbN (by omega) (by omega)), nI_clamp (by omega), n5, e2]
    refine rGB (r_enG hK s5 kp5 (s := t + 1) (by omega) (show R.T.nS + R.T.nG < 11 by omega)) ?_ ?_
    · intro y g t0 f
      have f' : rF P v m0 y g t0 := f
      exact ⟨y, by unfold sS4; rw [if_neg f'.p.2], f'⟩
    rintro u6 t6 m6 - ⟨rfl, l6, k6, e6, s6, kp6⟩
    refine ⟨fun R' t' z => ?_, fun f t' z => (by cases z)⟩
    cases z
    have e249 : (wI y3.2 255 (4 * v + R.T.nS) y3.1).2 249 (t + 1) = lN (pkw 27 (N (t + 1))) := (s5.ls.1 (t + 1) (by omega) (fun j hj => s5.ls.2.2.2.1 j (by omega))).2.2.2 k2
    have x1 : (wI (wI y3.2 255 (4 * v + R.T.nS) y3.1) 243 11 (nI (t + 1 + 1 + 1 + 1 + 1))).1 254 (4 * v + R.T.nS) = nI (V (t + 1 + 1)) := by
      rw [wI_i, if_neg (by omega), wI_i, if_neg (by omega), ks4.1 _ _ (by omega), wI_i, if_pos ⟨rfl, rfl⟩]; exact e3
    have x2 : (wI (wI y3.2 255 (4 * v + R.T.nS) y3.1) 243 11 (nI (t + 1 + 1 + 1 + 1 + 1))).1 255 (4 * v + R.T.nS) = nI (V (t + 1 + 1 + 1)) := by
      rw [wI_i, if_neg (by omega), wI_i, if_pos ⟨rfl, rfl⟩]; exact e4
    have fin := s6.aS (w := N (t + 1)) (x := V (t + 1 + 1)) (y := V (t + 1 + 1 + 1)) c (hN _ k2) x1 x2 rfl
    have q13 : m6.1 243 13 = 0 := by rw [e6, wI_i, if_neg (by omega), wI_i, if_neg (by omega)]; exact s6.ls.2.2.2.2.1
    have q19 : m6.1 243 19 = nI v := by rw [e6, wI_i, if_neg (by omega), wI_i, if_neg (by omega)]; exact s6.ls.2.2.2.2.2.2.2.2.2.2.2.2.1
    have q253 : m6.1 253 v = nI R.T.nS := by rw [e6, wI_i, if_neg (by omega), wI_i, if_neg (by omega)]; exact s6.nS
    unfold sS4
    rw [if_pos q13, q19, if_pos (inbN (by omega) (by omega)), if_pos (inbN (by omega) (by omega)), nI_clamp (by omega), q253, nI_1, nm_ap]
    refine ⟨_, rfl, ?_, kp6.wI (by unfold kc; omega)⟩
    rw [e6, e249]
    exact fin
  · have n4 : R.T.nS = 4 := by omega
    rw [if_neg c, n4, show fX11_roomFor (nI 4) 4 m = _ from r_room_f (P := P) (by omega) h2 h5 tk.2.1, bind_s]
    refine ⟨fun R' t' z => (by cases z), fun f t' z => ?_⟩
    cases z
    have f' : rF P v m0 (wI (wI m 243 13 2) 243 14 (nI (P t))) 2 t := by
      refine ⟨Or.inr rfl, ?_, ?_, ?_, h14, (kp.wI (by unfold kc; omega)).wI (by unfold kc; omega)⟩
      · rw [wI_i, if_neg (by omega), wI_i, if_pos ⟨rfl, rfl⟩]; rfl
      · rw [wI_i, if_pos ⟨rfl, rfl⟩]
      · rw [wI_i, if_neg (by omega), wI_i, if_neg (by omega)]; exact h13
    exact ⟨wI (wI m 243 13 2) 243 14 (nI (P t)), by unfold sS0; rw [if_pos f'.p.1], f'⟩
