/-! ===== the reference: death, seed, laws, any tell ===== -/
def toldP (K V : Nat → Nat) (k a c : Nat) (R : Rd) (t : Nat) : PR Rd := pb (tkP K k t) fun _ t1 => pb (intP K V a c R t1) fun R1 t2 => pb (tkP K 4 t2) fun _ t3 => .ok (R1, t3)
theorem told_eq {K V : Nat → Nat} {k a c t : Nat} {R : Rd} {g : Rd → Nat → Rd} : (pb (tkP K k t) fun _ t1 => pb (intP K V a c R t1) fun R1 t2 => pb (tkP K 4 t2) fun _ t3 => (.ok (g R1 (V t1), t3) : PR Rd)) = pb (toldP K V k a c R t) fun R1 t3 => .ok (g R1 (V (t + 1)), t3) := by
  unfold toldP
  cases e1 : tkP K k t with
  | error x => rfl
  | ok z =>
    obtain ⟨u, t1⟩ := z
    obtain ⟨-, -, rfl⟩ := tk_ok e1
    show (pb (intP K V a c R (t + 1)) fun R1 t2 => pb (tkP K 4 t2) fun _ t3 => (.ok (g R1 (V (t + 1)), t3) : PR Rd)) = pb (pb (intP K V a c R (t + 1)) fun R1 t2 => pb (tkP K 4 t2) fun _ t3 => .ok (R1, t3)) fun R1 t3 => .ok (g R1 (V (t + 1)), t3)
    cases intP K V a c R (t + 1) with
    | error x => rfl
    | ok z =>
      obtain ⟨R1, t2⟩ := z
      show (pb (tkP K 4 t2) fun _ t3 => (.ok (g R1 (V (t + 1)), t3) : PR Rd)) = pb (pb (tkP K 4 t2) fun _ t3 => .ok (R1, t3)) fun R1 t3 => .ok (g R1 (V (t + 1)), t3)
      cases tkP K 4 t2 <;> rfl
theorem r_toG {K V : Nat → Nat} {N : Nat → List Nat} {P : Nat → Nat} {v : Nat} {R : Rd} {m0 m : Mem} {t b q k a c : Nat} (hK : ∀ t, K t < 34) (hV : ∀ t, V t < 2 ^ 31) (hP : gro K P) (ha : a < 2 ^ 31) (hc : c < 2 ^ 31) (k2 : 2 ≤ k) (h : rRd K V N P v R m t b q) (kp : KP v m0 m) (hKt : K t = k) : rG P v m0 (toldP K V k a c R t) (fX11_toldInt (nI a) (nI c) m) Prod.snd (fun R' t' y => y.1 = nI (V (t + 1)) ∧ rRd K V N P v R' y.2 t' b q ∧ KP v m0 y.2) := by
  unfold toldP fX11_toldInt
  refine rGB (r_goG hKt k2 h kp) ?_ ?_
  · intro y g t0 f
    have f' : rF P v m0 y g t0 := f
    exact ⟨(nI a, y), by rw [f_bo f', bind_s, f_mu f', bind_s], f'⟩
  rintro u1 t1 m1 - ⟨rfl, l1, k1, -, s1, kp1⟩
  refine rGB (r_boG hK hV hP ha hc s1 kp1) ?_ ?_
  · intro y g t0 f
    have f' : rF P v m0 y.2 g t0 := f
    exact ⟨(y.1, y.2), by rw [f_mu f', bind_s], f'⟩
  rintro R1 t2 y1 - ⟨rfl, rfl, l2, k3, e2, s2, kp2, ks2⟩
  refine rGB (r_muG (k := 4) (k' := 4) hK (by omega) (kR_b _ (hK _)).2.2.1 (by omega) s2 kp2) ?_ ?_
  · intro y g t0 f
    have f' : rF P v m0 y g t0 := f
    exact ⟨(y1.1, y), rfl, f'⟩
  rintro u3 t3 m3 - ⟨rfl, l3, k4, -, s3, kp3⟩
  refine ⟨fun R' t' z => ?_, fun f t' z => (by cases z)⟩
  cases z
  exact ⟨(y1.1, m3), rfl, e2, s3, kp3⟩
theorem rRd.d {K V : Nat → Nat} {N : Nat → List Nat} {P : Nat → Nat} {v : Nat} {R : Rd} {m m' : Mem} {t b q x y : Nat} (h : rRd K V N P v R m t b q) (kp : ∀ a i, ¬ ((a = 262 ∨ a = 263) ∧ i = v) → m'.1 a i = m.1 a i) (kl : ∀ a i, m'.2 a i = m.2 a i) (hx : m'.1 262 v = nI x) (hy : m'.1 263 v = nI y) : rRd K V N P v (Rd.mk (Txt.mk R.T.nS R.T.nG R.T.lo R.T.wo R.T.hr R.T.hs R.T.fe R.T.fo x y R.T.la R.T.tl) R.nf R.sn R.gn R.lt) m' t b q := by
  obtain ⟨h1, h2, h3, h4, h5, h6, h7, h8', h9, h10, h11', h12, h13, h14, h15⟩ := h.ls
  refine ⟨⟨h1.fr (fun a y a1 a2 => ⟨kp a y (by omega), kl a y⟩), by rw [kp _ _ (by omega)]; exact h2, h3, h4, by rw [kp _ _ (by omega)]; exact h5, by rw [kp _ _ (by omega)]; exact h6, by rw [kp _ _ (by omega)]; exact h7, h8', h9, by rw [kp _ _ (by omega)]; exact h10, h11', h12, by rw [kp _ _ (by omega)]; exact h13, h14, FL.rfl⟩, h.hb, by rw [kp _ _ (by omega)]; exact h.nS, h.s4, by rw [kp _ _ (by omega)]; exact h.nG, h.g7, by rw [kp _ _ (by omega)]; exact h.nf, h.f8, hx, hy, fun s hs => ?_, fun g hg => ?_, fun g hg => ?_, h.fg, rLs_ext h.la (fun a y a1 a2 => kp a y (by omega)), ⟨by rw [kp _ _ (by omega)]; exact h.nm.1, ?_⟩, h.lt.ext (kp _ _ (by omega)) (kp _ _ (by omega))⟩
  · rw [kp _ _ (by omega), kp _ _ (by omega)]; exact h.lo s hs
  · rw [kp _ _ (by omega), kp _ _ (by omega), kp _ _ (by omega)]; exact h.gu g hg
  · rw [kp _ _ (by omega)]; exact h.fo g hg
  · obtain ⟨O, o⟩ := h.nm.2
    refine ⟨O, fun k hk => ?_, o.su, o.gu, o.mo⟩
    rw [kp _ _ (by omega), kl]; exact o.ea k hk
theorem r_deG {K V : Nat → Nat} {N : Nat → List Nat} {P : Nat → Nat} {v : Nat} {R : Rd} {m0 m : Mem} {t b q : Nat} (hK : ∀ t, K t < 34) (hV : ∀ t, V t < 2 ^ 31) (hP : gro K P) (h : rRd K V N P v R m t b q) (kp : KP v m0 m) (hKt : K t = 20) : rG P v m0 (pb (tkP K 20 t) fun _ t1 => pb (intP K V 1 999 R t1) fun R1 t2 => pb (tkP K 4 t2) fun _ t3 => .ok (setD R1 (V t1), t3)) (fX11_tellOne m) id (fun R' t' m' => rRd K V N P v R' m' t' b q ∧ KP v m0 m') := by
  obtain ⟨h1, h2, h3, h4, h5, h6, h7, h8, h9, h10, h11, h12, h13, h14, h15⟩ := h.ls
  have tk := h1 t h3 h4
  have kk : m.1 246 (m.1 243 11).toNatClampNeg = 27 := by rw [h2, nI_clamp (by omega), tk.1, hKt]; rfl
  rw [told_eq (g := setD)]
  unfold fX11_tellOne
  rw [kk, if_pos (by rw [h2]; exact inbN (by omega) (by omega)), if_neg (show ¬ (27 : Int32) = 20 by decide), if_neg (show ¬ (27 : Int32) = 21 by decide), if_neg (show ¬ (27 : Int32) = 22 by decide), if_pos rfl, h13]
  simp only [if_pos (show inb (nI v) 2 from inbN (by omega) (by omega)), show (nI v).toNatClampNeg = v from nI_clamp (by omega), nm_ap]
  refine rGB (r_toG (a := 1) (c := 999) hK hV hP (by omega) (by omega) (by omega) h kp hKt) ?_ ?_
  · intro y g t0 f
    have f' : rF P v m0 y.2 g t0 := f
    exact ⟨_, rfl, f'.w (by omega) (by unfold kc; omega)⟩
  rintro R1 t1 y1 - ⟨e1, s1, kp1⟩
  refine ⟨fun R' t' z => ?_, fun f t' z => (by cases z)⟩
  cases z
  exact ⟨_, rfl, s1.d (x := V (t + 1)) (y := R1.T.se) (fun a i ha => by rw [wI_i, if_neg (by omega)]) (fun a i => rfl) (by rw [wI_i, if_pos ⟨rfl, rfl⟩]; exact e1) (by rw [wI_i, if_neg (by omega)]; exact s1.se), kp1.wI (by unfold kc; omega)⟩
theorem r_seG {K V : Nat → Nat} {N : Nat → List Nat} {P : Nat → Nat} {v : Nat} {R : Rd} {m0 m : Mem} {t b q : Nat} (hK : ∀ t, K t < 34) (hV : ∀ t, V t < 2 ^ 31) (hP : gro K P) (h : rRd K V N P v R m t b q) (kp : KP v m0 m) (hKt : K t = 21) : rG P v m0 (pb (tkP K 21 t) fun _ t1 => pb (intP K V 0 9999 R t1) fun R1 t2 => pb (tkP K 4 t2) fun _ t3 => .ok (setE R1 (V t1), t3)) (fX11_tellOne m) id (fun R' t' m' => rRd K V N P v R' m' t' b q ∧ KP v m0 m') := by
  obtain ⟨h1, h2, h3, h4, h5, h6, h7, h8, h9, h10, h11, h12, h13, h14, h15⟩ := h.ls
  have tk := h1 t h3 h4
  have kk : m.1 246 (m.1 243 11).toNatClampNeg = 28 := by rw [h2, nI_clamp (by omega), tk.1, hKt]; rfl
  rw [told_eq (g := setE)]
  unfold fX11_tellOne
  rw [kk, if_pos (by rw [h2]; exact inbN (by omega) (by omega)), if_neg (show ¬ (28 : Int32) = 20 by decide), if_neg (show ¬ (28 : Int32) = 21 by decide), if_neg (show ¬ (28 : Int32) = 22 by decide), if_neg (show ¬ (28 : Int32) = 27 by decide), if_pos rfl, h13]
  simp only [if_pos (show inb (nI v) 2 from inbN (by omega) (by omega)), show (nI v).toNatClampNeg = v from nI_clamp (by omega), nm_ap]
  refine rGB (r_toG (a := 0) (c := 9999) hK hV hP (by omega) (by omega) (by omega) h kp hKt) ?_ ?_
  · intro y g t0 f
    have f' : rF P v m0 y.2 g t0 := f
    exact ⟨_, rfl, f'.w (by omega) (by unfold kc; omega)⟩
  rintro R1 t1 y1 - ⟨e1, s1, kp1⟩
  refine ⟨fun R' t' z => ?_, fun f t' z => (by cases z)⟩
  cases z
  exact ⟨_, rfl, s1.d (x := R1.T.de) (y := V (t + 1)) (fun a i ha => by rw [wI_i, if_neg (by omega)]) (fun a i => rfl) (by rw [wI_i, if_neg (by omega)]; exact s1.de) (by rw [wI_i, if_pos ⟨rfl, rfl⟩]; exact e1), kp1.wI (by unfold kc; omega)⟩
theorem r_laG {K V : Nat → Nat} {N : Nat → List Nat} {P : Nat → Nat} {v : Nat} {R : Rd} {m0 m : Mem} {t b q : Nat} (hK : ∀ t, K t < 34) (h : rRd K V N P v R m t b q) (kp : KP v m0 m) (hKt : 16 ≤ K t ∧ K t ≤ 19) : rG P v m0 (pb (lawP K V (K t - 16) t) fun l t1 => .ok (setL R (K t - 16) l, t1)) (fX11_tellOne m) id (fun R' t' m' => ∃ b' q', rRd K V N P v R' m' t' b' q' ∧ KP v m0 m') := by
  obtain ⟨h1, h2, h3, h4, h5, h6, h7, h8, h9, h10, h11, h12, h13, h14, h15⟩ := h.ls
  have tk := h1 t h3 h4
  have kk : m.1 246 (m.1 243 11).toNatClampNeg = nI (K t + 7) := by rw [h2, nI_clamp (by omega), tk.1, kR_w (by omega)]
  have ne : ∀ x, x < 100 → K t + 7 ≠ x → ¬ nI (K t + 7) = nI x := fun x hx q z => q ((nI_eq (by omega) (by omega)).1 z)
  have bi : inb (m.1 243 11) 403 := by rw [h2]; exact inbN (by omega) (by omega)
  have e16 : nI (K t + 7) - 23 = nI (K t - 16) := by
    have := nI_back (a := K t + 7) (b := 23) (by omega)
    rw [show K t + 7 - 23 = K t - 16 by omega] at this
    exact this
  unfold fX11_tellOne
  rw [kk, if_pos bi, if_neg (show ¬ nI (K t + 7) = (20 : Int32) from ne 20 (by omega) (by omega)), if_neg (show ¬ nI (K t + 7) = (21 : Int32) from ne 21 (by omega) (by omega)), if_neg (show ¬ nI (K t + 7) = (22 : Int32) from ne 22 (by omega) (by omega)), if_neg (show ¬ nI (K t + 7) = (27 : Int32) from ne 27 (by omega) (by omega)), if_neg (show ¬ nI (K t + 7) = (28 : Int32) from ne 28 (by omega) (by omega)), if_pos bi, e16, nm_ap, if_neg (show ¬ nI (K t - 16) < 0 by rw [L_0]; exact nI_nlt (by omega) (by omega)), if_pos bi, if_neg (show ¬ (26 : Int32) < nI (K t + 7) by rw [L_26]; exact nI_nlt (by omega) (by omega)), if_neg (show ¬ 0 < m.1 243 13 by rw [h5]; decide)]
  obtain ⟨r1, r2⟩ := r_tellLaw (V := V) (k := K t - 16) (T := R.T) hK (by omega) (by omega) h.ls h.hb h.la
  refine ⟨fun R' t' z => ?_, fun f t' z => ?_⟩
  · obtain ⟨l, t1, e1, e2⟩ := pb_ok z
    cases e2
    obtain ⟨m', x1, b', x2, x3, x4, x5⟩ := r1 l t' e1
    obtain ⟨y1, y2, y3, y4, y5, y6, y7, y8, y9, y10, y11, y12, y13, y14, y15⟩ := x2
    have ki : ∀ a i, (251 ≤ a ∧ a ≤ 263) ∨ (a = 243 ∧ (i = 20 ∨ i = 15 ∨ i = 16)) → m'.1 a i = m.1 a i := fun a i ha => (y15.1 a i (by simp [WTL, WX11_tellLaw, inW]; omega)).1
    have kl : ∀ i, m'.2 251 i = m.2 251 i := fun i => (y15.1 251 i (by simp [WTL, WX11_tellLaw, inW])).2
    have ga := (gA_tel (K := K) (V := V) (N := N) (R := R) h3)
    have tt : t ≤ t' := by
      obtain ⟨u1, t1, f1, f2⟩ := pb_ok e1
      obtain ⟨-, lt1, rfl⟩ := tk_ok f1
      obtain ⟨u2, t2, f3, f4⟩ := pb_ok f2
      obtain ⟨-, lt2, rfl⟩ := tk_ok f3
      have := ((gA_law 4 (show t + 1 + 1 ≤ 400 by omega)).1 _ _ f4).1
      omega
    refine ⟨m', x1, b', q + tln l, ⟨⟨y1, y2, y3, y4, y5, y6, y7, y8, y9, y10, y11, y12, y13, y14, FL.rfl⟩, x3, by rw [ki _ _ (by omega)]; exact h.nS, h.s4, by rw [ki _ _ (by omega)]; exact h.nG, h.g7, by rw [ki _ _ (by omega)]; exact h.nf, h.f8, by rw [ki _ _ (by omega)]; exact h.de, by rw [ki _ _ (by omega)]; exact h.se, fun s hs => ?_, fun g hg => ?_, fun g hg => ?_, h.fg, x4, ⟨by rw [ki _ _ (by omega)]; exact h.nm.1, ?_⟩, (h.lt.up tt).ext (ki _ _ (by omega)) (ki _ _ (by omega))⟩, y15.kp kp⟩
    · rw [ki _ _ (by omega), ki _ _ (by omega)]; exact h.lo s hs
    · rw [ki _ _ (by omega), ki _ _ (by omega), ki _ _ (by omega)]; exact h.gu g hg
    · rw [ki _ _ (by omega)]; exact h.fo g hg
    · obtain ⟨O, o⟩ := h.nm.2
      refine ⟨O, fun k hk => ?_, o.su, o.gu, o.mo⟩
      rw [ki _ _ (by omega), kl]; exact o.ea k hk
  · rcases pb_er z with y | ⟨l, t1, e1, e2⟩
    · obtain ⟨m', x1, x2⟩ := r2 f t' y
      exact ⟨m', x1, x2.rf h13 kp⟩
    · cases e2
theorem kR_d : ∀ k, k < 34 → ¬ (13 ≤ k ∧ k ≤ 21) → kR k ≠ 20 ∧ kR k ≠ 21 ∧ kR k ≠ 22 ∧ kR k ≠ 27 ∧ kR k ≠ 28 ∧ (kR k < 23 ∨ 26 < kR k) := by decide +kernel
theorem r_noG {K V : Nat → Nat} {N : Nat → List Nat} {P : Nat → Nat} {v : Nat} {R : Rd} {m0 m : Mem} {t b q : Nat} (hK : ∀ t, K t < 34) (h : rRd K V N P v R m t b q) (kp : KP v m0 m) (hKt : ¬ (13 ≤ K t ∧ K t ≤ 21)) : ∃ m', fX11_tellOne m = some m' ∧ rF P v m0 m' 1 t := by
  obtain ⟨h1, h2, h3, h4, h5, h6, h7, h8, h9, h10, h11, h12, h13, h14, h15⟩ := h.ls
  have tk := h1 t h3 h4
  obtain ⟨d1, d2, d3, d4, d5, d6⟩ := kR_d _ (hK t) hKt
  have kl := kR_lt _ (hK t)
  have kk : m.1 246 (m.1 243 11).toNatClampNeg = nI (kR (K t)) := by rw [h2, nI_clamp (by omega), tk.1]
  have ne : ∀ x, x < 100 → kR (K t) ≠ x → ¬ nI (kR (K t)) = nI x := fun x hx q z => q ((nI_eq (by omega) (by omega)).1 z)
  have bi : inb (m.1 243 11) 403 := by rw [h2]; exact inbN (by omega) (by omega)
  have f' : rF P v m0 (wI (wI m 243 13 1) 243 14 (nI (P t))) 1 t := by
    refine ⟨Or.inl rfl, ?_, ?_, ?_, h14, (kp.wI (by unfold kc; omega)).wI (by unfold kc; omega)⟩
    · rw [wI_i, if_neg (by omega), wI_i, if_pos ⟨rfl, rfl⟩]; rfl
    · rw [wI_i, if_pos ⟨rfl, rfl⟩]
    · rw [wI_i, if_neg (by omega), wI_i, if_neg (by omega)]; exact h13
  have j392 : ∀ x, fX11_tellOne_j392 x m = some (wI (wI m 243 13 1) 243 14 (nI (P t))) := by
    intro x
    unfold fX11_tellOne_j392
    rw [r_fail (by omega) h2 h5 tk.2.1, bind_s, if_pos f'.p.1]
  refine ⟨_, ?_, f'⟩
  unfold fX11_tellOne
  rw [kk, if_pos bi, if_neg (show ¬ nI (kR (K t)) = (20 : Int32) from ne 20 (by omega) d1), if_neg (show ¬ nI (kR (K t)) = (21 : Int32) from ne 21 (by omega) d2), if_neg (show ¬ nI (kR (K t)) = (22 : Int32) from ne 22 (by omega) d3), if_neg (show ¬ nI (kR (K t)) = (27 : Int32) from ne 27 (by omega) d4), if_neg (show ¬ nI (kR (K t)) = (28 : Int32) from ne 28 (by omega) d5), if_pos bi, nm_ap, j392]
  rcases d6 with d | d
  · rw [if_pos (show nI (kR (K t)) - 23 < 0 from pk_sneg (b := 23) (by omega) d)]
  · by_cases c : nI (kR (K t)) - 23 < 0
    · rw [if_pos c]
    · rw [if_neg c, if_pos bi, if_pos (show (26 : Int32) < nI (kR (K t)) by rw [L_26]; exact nI_lt d (by omega))]
theorem r_tellOne {K V : Nat → Nat} {N : Nat → List Nat} {P : Nat → Nat} {v : Nat} {R : Rd} {m0 m : Mem} {t b q : Nat} (hK : ∀ t, K t < 34) (hV : ∀ t, V t < 2 ^ 31) (hN : ∀ t, K t = 2 → ltOk (N t)) (hP : gro K P) (h : rRd K V N P v R m t b q) (kp : KP v m0 m) : rG P v m0 (telP K V N R t) (fX11_tellOne m) id (fun R' t' m' => ∃ b' q', rRd K V N P v R' m' t' b' q' ∧ KP v m0 m') := by
  unfold telP
  by_cases c13 : K t = 13
  · rw [if_pos c13]; exact (r_sunG hK hV hN hP h kp c13).mono (fun _ _ _ z => ⟨b, q, z⟩)
  rw [if_neg c13]
  by_cases c14 : K t = 14
  · rw [if_pos c14]; exact (r_gueG hK hV hN hP h kp c14).mono (fun _ _ _ z => ⟨b, q, z⟩)
  rw [if_neg c14]
  by_cases c15 : K t = 15
  · rw [if_pos c15]; exact (r_foeG hK hN hP h kp c15).mono (fun _ _ _ z => ⟨b, q, z⟩)
  rw [if_neg c15]
  by_cases cl : 16 ≤ K t ∧ K t ≤ 19
  · rw [if_pos cl]; exact r_laG hK h kp cl
  rw [if_neg cl]
  by_cases c20 : K t = 20
  · rw [if_pos c20]; exact (r_deG hK hV hP h kp c20).mono (fun _ _ _ z => ⟨b, q, z⟩)
  rw [if_neg c20]
  by_cases c21 : K t = 21
  · rw [if_pos c21]; exact (r_seG hK hV hP h kp c21).mono (fun _ _ _ z => ⟨b, q, z⟩)
  rw [if_neg c21]
  obtain ⟨m', x1, x2⟩ := r_noG hK h kp (by omega)
  exact ⟨fun a t' z => (by cases z), fun f t' z => by cases z; exact ⟨m', x1, x2⟩⟩
