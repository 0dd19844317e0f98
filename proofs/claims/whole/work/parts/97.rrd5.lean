/-! ===== the reference: foes told ===== -/
theorem fnd_eq {f : Nat → List Nat} {w : List Nat} {r g : Nat} (h1 : g < r) (h2 : f g = w) (h3 : ∀ j, j < g → f j ≠ w) : fnd f w r 0 = some g := by
  have is : (fnd f w r 0).isSome = true := fnd_is.2 ⟨g, by omega, by omega, h2⟩
  cases e : fnd f w r 0 with
  | none => rw [e] at is; cases is
  | some x =>
    obtain ⟨a1, a2⟩ := fnd_at e
    have a3 := fnd_lt e
    rcases Nat.lt_trichotomy x g with z | z | z
    · exact absurd a1 (h3 x z)
    · rw [z]
    · exact absurd h2 (a2 g (by omega) z)
theorem r_knG {K V : Nat → Nat} {N : Nat → List Nat} {P : Nat → Nat} {v : Nat} {R : Rd} {m0 m : Mem} {t b q : Nat} (hK : ∀ t, K t < 34) (hN : ∀ t, K t = 2 → ltOk (N t)) (hP : gro K P) (h : rRd K V N P v R m t b q) (kp : KP v m0 m) : rG P v m0 (tkP K 2 t) (fX11_known m) Prod.snd (fun _ t' y => t' = t + 1 ∧ t < 400 ∧ K t = 2 ∧ KP v m0 y.2 ∧ ((∃ g, fnd R.gn (N t) R.T.nG 0 = some g ∧ y.1 = nI g ∧ rRd K V N P v R y.2 (t + 1) b q) ∨ (fnd R.gn (N t) R.T.nG 0 = none ∧ y.1 = -1 ∧ rRd K V N P v (setLt R (late R.lt true 4 t)) y.2 (t + 1) b q))) := by
  have h4 := h.ls.2.2.2.1
  have s4 := h.s4
  have g7 := h.g7
  have hlt := h.lt
  unfold fX11_known
  rw [show m.1 243 11 = nI t from h.ls.2.1]
  have pbu : tkP K 2 t = pb (tkP K 2 t) fun u t1 => .ok (u, t1) := by
    cases tkP K 2 t <;> rfl
  rw [pbu]
  refine rGB (r_muG (k := 2) (k' := 1) hK (by omega) (kR_b _ (hK t)).2.2.2.2.1 (by omega) h kp) ?_ ?_
  · intro y g t0 f
    have f' : rF P v m0 y g t0 := f
    exact ⟨(-1, y), by rw [if_pos f'.p.1], f'⟩
  rintro u t1 m1 - ⟨rfl, lt, k2, e1, s1, kp1⟩
  obtain ⟨O, o⟩ := s1.nm.2
  have tk := s1.ls.1 t (by omega) h4
  have h20 := s1.nm.1
  have W := hN t k2
  rw [if_neg (show ¬ 0 < m1.1 243 13 by rw [s1.ls.2.2.2.2.1]; decide)]
  have step : ∀ n i, i < R.T.nS + R.T.nG → fX11_known_21 (nI t) m1 (fun _ => (fX11_wrong 4 (nI t) m1).bind fun q2 => some (-1, q2)) (n + 1) (nI i) = if (decide (nmO R (O i) = N t) && decide (10 ≤ O i)) = true then some (nI (O i) - 10, m1) else fX11_known_21 (nI t) m1 (fun _ => (fX11_wrong 4 (nI t) m1).bind fun q2 => some (-1, q2)) n (nI (i + 1)) := by
    intro n i hi
    obtain ⟨o1, o2, o3, o4⟩ := o.ea i hi
    have bi : inb (nI i) 11 := inbN (by omega) (by omega)
    have bt : inb (nI t) 403 := inbN (by omega) (by omega)
    have ci : (nI i).toNatClampNeg = i := nI_clamp (by omega)
    have ct : (nI t).toNatClampNeg = t := nI_clamp (by omega)
    rw [fX11_known_21, h20, if_pos (nI_lt hi (by omega))]
    simp only [if_pos bi, if_pos bt, ci, ct, o2, tk.2.2.2 k2, o1, nI_1]
    by_cases c : nmO R (O i) = N t
    · rw [if_pos (by rw [c])]
      by_cases d : 10 ≤ O i
      · rw [if_neg (show ¬ nI (O i) < 10 by rw [L_10]; exact nI_nlt d (by omega)), if_pos (by rw [decide_eq_true c, decide_eq_true d]; rfl)]
      · rw [if_pos (show nI (O i) < 10 by rw [L_10]; exact nI_lt (by omega) (by omega)), if_neg (by rw [decide_eq_false d, Bool.and_false]; exact Bool.false_ne_true)]
    · rw [if_neg (fun z => c ((pkl_eq (by omega) (by omega) o3 W).1 z)), if_neg (by rw [decide_eq_false c, Bool.false_and]; exact Bool.false_ne_true)]
  have le := ffd_le (fun k => decide (nmO R (O k) = N t) && decide (10 ≤ O k)) (R.T.nS + R.T.nG) 0
  rw [lfind (L := fun n i => fX11_known_21 (nI t) m1 (fun _ => (fX11_wrong 4 (nI t) m1).bind fun q2 => some (-1, q2)) n i) (X := (fX11_wrong 4 (nI t) m1).bind fun q2 => some (-1, q2)) (R.T.nS + R.T.nG) (fun k => decide (nmO R (O k) = N t) && decide (10 ≤ O k)) (fun k => some (nI (O k) - 10, m1)) (by omega)
    (by intro n i hi hp; show fX11_known_21 _ _ _ _ _ = _; rw [step n i hi, if_pos hp])
    (by intro n i hi hp; show fX11_known_21 _ _ _ _ _ = _; rw [step n i hi, if_neg (by rw [hp]; decide)])
    (by intro n; show fX11_known_21 _ _ _ _ _ = _; rw [fX11_known_21, h20, if_neg (nI_nlt (by omega) (by omega))])]
  refine ⟨fun u' t' z => ?_, fun f t' z => (by cases z)⟩
  cases z
  by_cases c : ffd (fun k => decide (nmO R (O k) = N t) && decide (10 ≤ O k)) (R.T.nS + R.T.nG) 0 < R.T.nS + R.T.nG
  · rw [if_pos c]
    have yes := ffd_yes (fun k => decide (nmO R (O k) = N t) && decide (10 ≤ O k)) (R.T.nS + R.T.nG) 0 (by omega)
    have no := ffd_no (fun k => decide (nmO R (O k) = N t) && decide (10 ≤ O k)) (R.T.nS + R.T.nG) 0
    generalize ffd (fun k => decide (nmO R (O k) = N t) && decide (10 ≤ O k)) (R.T.nS + R.T.nG) 0 = z at c yes no
    simp only [Bool.and_eq_true, decide_eq_true_eq] at yes
    obtain ⟨y1, y2⟩ := yes
    have o4 := (o.ea z c).2.2.2
    refine ⟨_, rfl, rfl, lt, k2, kp1, Or.inl ⟨O z - 10, fnd_eq (by omega) ?_ (fun j hj => ?_), ?_, s1⟩⟩
    · unfold nmO at y1
      rw [if_neg (by omega)] at y1
      exact y1
    · intro ej
      obtain ⟨k, k1, k2'⟩ := o.gu j (by omega)
      have nk : nmO R (O k) = N t := by unfold nmO; rw [k2', if_neg (by omega), Nat.add_sub_cancel_left]; exact ej
      by_cases kz : k < z
      · have := no k (by omega) kz
        have pp : (decide (nmO R (O k) = N t) && decide (10 ≤ O k)) = true := by rw [decide_eq_true nk, decide_eq_true (by omega)]; rfl
        cases pp.symm.trans this
      · rcases (show k = z ∨ z < k by omega) with y | y
        · rw [y] at k2'; omega
        · have := o.mo z k y k1 y2 (by omega)
          omega
    · exact nI_back (b := 10) y2
  · rw [if_neg c]
    have no := ffd_no (fun k => decide (nmO R (O k) = N t) && decide (10 ≤ O k)) (R.T.nS + R.T.nG) 0
    obtain ⟨m2, x1, x2, x3⟩ := r_wrong (f := 4) (s := t) (by omega) s1.ls.2.2.2.2.1 tk.2.1 (fun i hi => hP.1 i t hi h4) (hP.2 t) (by omega) s1.lt (fun x z1 z2 => by
      rw [z1] at hlt
      have := hlt.2.2.2.2
      omega)
    rw [show fX11_wrong 4 (nI t) m1 = some m2 from x1, bind_s]
    refine ⟨_, rfl, rfl, lt, k2, x3.s.kp kp1, Or.inr ⟨?_, rfl, s1.k x3.s (by rw [x3.1 _ _ (by omega)]; exact s1.ls.2.1) (by omega) (by omega) s1.ls.2.2.2.1 x2⟩⟩
    cases e : fnd R.gn (N t) R.T.nG 0 with
    | none => rfl
    | some g =>
      obtain ⟨a1, a2⟩ := fnd_at e
      have a3 := fnd_lt e
      obtain ⟨k, k1, k2'⟩ := o.gu g (by omega)
      have nk : nmO R (O k) = N t := by unfold nmO; rw [k2', if_neg (by omega), Nat.add_sub_cancel_left]; exact a1
      have := no k (by omega) (by omega)
      have pp : (decide (nmO R (O k) = N t) && decide (10 ≤ O k)) = true := by rw [decide_eq_true nk, decide_eq_true (by omega)]; rfl
      cases pp.symm.trans this
theorem rRd.f {K V : Nat → Nat} {N : Nat → List Nat} {P : Nat → Nat} {v : Nat} {R : Rd} {m m' : Mem} {t b q : Nat} {F : Nat → Nat → Bool} (h : rRd K V N P v R m t b q) (h8 : R.nf < 8) (h261 : m'.1 261 v = nI (R.nf + 1)) (kp : ∀ a i, ¬ (a = 260 ∨ (a = 261 ∧ i = v)) → m'.1 a i = m.1 a i) (kl : ∀ a i, m'.2 a i = m.2 a i) (hF : ∀ g, g < 7 → m'.1 260 (7 * v + g) = nI (bs (F g) 7)) (hg : ∀ g o, F g o = true → g < R.T.nG ∧ o < R.T.nG) : rRd K V N P v (Rd.mk (Txt.mk R.T.nS R.T.nG R.T.lo R.T.wo R.T.hr R.T.hs R.T.fe F R.T.de R.T.se R.T.la R.T.tl) (R.nf + 1) R.sn R.gn R.lt) m' t b q := by
  obtain ⟨h1, h2, h3, h4, h5, h6, h7, h8', h9, h10, h11', h12, h13, h14, h15⟩ := h.ls
  refine ⟨⟨h1.fr (fun a y a1 a2 => ⟨kp a y (by omega), kl a y⟩), by rw [kp _ _ (by omega)]; exact h2, h3, h4, by rw [kp _ _ (by omega)]; exact h5, by rw [kp _ _ (by omega)]; exact h6, by rw [kp _ _ (by omega)]; exact h7, h8', h9, by rw [kp _ _ (by omega)]; exact h10, h11', h12, by rw [kp _ _ (by omega)]; exact h13, h14, FL.rfl⟩, h.hb, by rw [kp _ _ (by omega)]; exact h.nS, h.s4, by rw [kp _ _ (by omega)]; exact h.nG, h.g7, h261, h8, by rw [kp _ _ (by omega)]; exact h.de, by rw [kp _ _ (by omega)]; exact h.se, fun s hs => ?_, fun g hg => ?_, hF, hg, rLs_ext h.la (fun a y a1 a2 => kp a y (by omega)), ⟨by rw [kp _ _ (by omega)]; exact h.nm.1, ?_⟩, h.lt.ext (kp _ _ (by omega)) (kp _ _ (by omega))⟩
  · rw [kp _ _ (by omega), kp _ _ (by omega)]; exact h.lo s hs
  · rw [kp _ _ (by omega), kp _ _ (by omega), kp _ _ (by omega)]; exact h.gu g hg
  · obtain ⟨O, o⟩ := h.nm.2
    refine ⟨O, fun k hk => ?_, o.su, o.gu, o.mo⟩
    rw [kp _ _ (by omega), kl]; exact o.ea k hk
theorem f_75 {P : Nat → Nat} {v : Nat} {m0 m : Mem} {f t : Nat} {x y z : Int32} (h : rF P v m0 m f t) : fX11_tellFoes_j75 x y z m = some m := by
  unfold fX11_tellFoes_j75
  rw [f_mu h, bind_s, if_pos h.p.1]
def sF1 (a x2 : Int32) (q3 : Int32 × Mem) : Option Mem := if (q3.2.1 243 13) = 0 then (if a < 0 then fX11_tellFoes_j35 a x2 q3.1 0 q3.2 else (if q3.1 < 0 then fX11_tellFoes_j35 a x2 q3.1 0 q3.2 else fX11_tellFoes_j35 a x2 q3.1 1 q3.2)) else fX11_tellFoes_j35 a x2 q3.1 0 q3.2
theorem f_sF1 {P : Nat → Nat} {v : Nat} {m0 : Mem} {f t : Nat} {a x : Int32} {y : Int32 × Mem} (h : rF P v m0 y.2 f t) : sF1 a x y = some y.2 := by
  unfold sF1
  rw [if_neg h.p.2]
  unfold fX11_tellFoes_j35
  rw [if_pos rfl, f_75 h]
theorem r_75a {K V : Nat → Nat} {N : Nat → List Nat} {P : Nat → Nat} {v : Nat} {R : Rd} {m0 m : Mem} {t b q : Nat} {x y : Int32} (hK : ∀ t, K t < 34) (h : rRd K V N P v R m t b q) (kp : KP v m0 m) (h8 : R.nf < 8) : rG P v m0 (pb (tkP K 4 t) fun _ t4 => .ok (Rd.mk R.T (R.nf + 1) R.sn R.gn R.lt, t4)) (fX11_tellFoes_j75 x y 0 m) id (fun R' t' m' => rRd K V N P v R' m' t' b q ∧ KP v m0 m') := by
  unfold fX11_tellFoes_j75
  refine rGB (r_muG (k := 4) (k' := 4) hK (by omega) (kR_b _ (hK t)).2.2.1 (by omega) h kp) ?_ ?_
  · intro y g t0 f
    have f' : rF P v m0 y g t0 := f
    exact ⟨y, by rw [if_pos f'.p.1], f'⟩
  rintro u t1 m1 - ⟨rfl, lt, k4, e1, s1, kp1⟩
  have h14 := h.ls.2.2.2.2.2.2.2.2.2.2.2.2.2.1
  refine ⟨fun u' t' z => ?_, fun f t' z => (by cases z)⟩
  cases z
  rw [if_neg (show ¬ 0 < m1.1 243 13 by rw [s1.ls.2.2.2.2.1]; decide), s1.ls.2.2.2.2.2.2.2.2.2.2.2.2.1, if_pos (inbN (by omega) (by omega)), if_pos (inbN (by omega) (by omega)), nI_clamp (by omega), s1.nf, nI_1, nm_ap, if_pos rfl]
  refine ⟨_, rfl, s1.f (F := R.T.fo) h8 (by rw [wI_i, if_pos ⟨rfl, rfl⟩]) (fun a i ha => by rw [wI_i, if_neg (by omega)]) (fun a i => rfl) (fun g hg => by rw [wI_i, if_neg (by omega)]; exact s1.fo g hg) s1.fg, kp1.wI (by unfold kc; omega)⟩
theorem r_75b {K V : Nat → Nat} {N : Nat → List Nat} {P : Nat → Nat} {v : Nat} {R : Rd} {m0 m : Mem} {t b q g o : Nat} (hK : ∀ t, K t < 34) (h : rRd K V N P v R m t b q) (kp : KP v m0 m) (h8 : R.nf < 8) (hg : g < R.T.nG) (ho : o < R.T.nG) : rG P v m0 (pb (tkP K 4 t) fun _ t4 => .ok (Rd.mk (Txt.mk R.T.nS R.T.nG R.T.lo R.T.wo R.T.hr R.T.hs R.T.fe (fo2 R.T.fo g o) R.T.de R.T.se R.T.la R.T.tl) (R.nf + 1) R.sn R.gn R.lt, t4)) (fX11_tellFoes_j75 (nI g) (nI o) 1 m) id (fun R' t' m' => rRd K V N P v R' m' t' b q ∧ KP v m0 m') := by
  unfold fX11_tellFoes_j75
  refine rGB (r_muG (k := 4) (k' := 4) hK (by omega) (kR_b _ (hK t)).2.2.1 (by omega) h kp) ?_ ?_
  · intro y g t0 f
    have f' : rF P v m0 y g t0 := f
    exact ⟨y, by rw [if_pos f'.p.1], f'⟩
  rintro u t1 m1 - ⟨rfl, lt, k4, e1, s1, kp1⟩
  have g7 := h.g7
  have h14 := h.ls.2.2.2.2.2.2.2.2.2.2.2.2.2.1
  have h19 := s1.ls.2.2.2.2.2.2.2.2.2.2.2.2.1
  have bg : inb (nI (7 * v + g)) 14 := inbN (by omega) (by omega)
  have cg : (nI (7 * v + g)).toNatClampNeg = 7 * v + g := nI_clamp (by omega)
  have bo : inb (nI (7 * v + o)) 14 := inbN (by omega) (by omega)
  have co : (nI (7 * v + o)).toNatClampNeg = 7 * v + o := nI_clamp (by omega)
  have ag : (7 : Int32) * nI v + nI g = nI (7 * v + g) := nI_mula 7 v g
  have ao : (7 : Int32) * nI v + nI o = nI (7 * v + o) := nI_mula 7 v o
  have e1 : (wI m1 261 v (nI (R.nf + 1))).1 260 (7 * v + g) = nI (bs (R.T.fo g) 7) := by rw [wI_i, if_neg (by omega)]; exact s1.fo g (by omega)
  have q1 : (wI m1 261 v (nI (R.nf + 1))).1 243 19 = nI v := by rw [wI_i, if_neg (by omega)]; exact h19
  have v1 : nI (bs (R.T.fo g) 7) ||| nI (2 ^ o) = nI (bs (fun i => (i == o) || R.T.fo g i) 7) := by rw [nI_or, bs_set (by omega)]
  have q2 : (wI (wI m1 261 v (nI (R.nf + 1))) 260 (7 * v + g) (nI (bs (fun i => (i == o) || R.T.fo g i) 7))).1 243 19 = nI v := by rw [wI_i, if_neg (by omega)]; exact q1
  have e2 : (wI (wI m1 261 v (nI (R.nf + 1))) 260 (7 * v + g) (nI (bs (fun i => (i == o) || R.T.fo g i) 7))).1 260 (7 * v + o) = if o = g then nI (bs (fun i => (i == o) || R.T.fo g i) 7) else nI (bs (R.T.fo o) 7) := by
    rw [wI_i]
    by_cases c : o = g
    · rw [if_pos ⟨rfl, by omega⟩, if_pos c]
    · rw [if_neg (by omega), if_neg c, wI_i, if_neg (by omega)]; exact s1.fo o (by omega)
  have v2 : (if o = g then nI (bs (fun i => (i == o) || R.T.fo g i) 7) else nI (bs (R.T.fo o) 7)) ||| nI (2 ^ g) = nI (bs (fo2 R.T.fo g o o) 7) := by
    by_cases c : o = g
    · subst c
      rw [if_pos rfl, nI_or, bs_set (by omega)]
      congr 1
      refine bs_ext (fun i _ => ?_)
      unfold fo2
      cases R.T.fo o i <;> cases (i == o) <;> simp
    · rw [if_neg c, nI_or, bs_set (by omega)]
      congr 1
      refine bs_ext (fun i _ => ?_)
      unfold fo2
      cases R.T.fo o i <;> cases (i == g) <;> simp [c]
  refine ⟨fun u' t' z => ?_, fun f t' z => (by cases z)⟩
  cases z
  rw [if_neg (show ¬ 0 < m1.1 243 13 by rw [s1.ls.2.2.2.2.1]; decide), h19, if_pos (inbN (by omega) (by omega)), if_pos (inbN (by omega) (by omega)), nI_clamp (by omega), s1.nf, nI_1, nm_ap, if_neg (show ¬ (1 : Int32) = 0 by decide)]
  simp only [q1, ag, ao, if_pos bg, if_pos bo, cg, co, nm_ap, nI_shl g (by omega), nI_shl o (by omega), e1, v1, q2, e2, v2]
  refine ⟨_, rfl, s1.f (F := fo2 R.T.fo g o) h8 (by rw [wI_i, if_neg (by omega), wI_i, if_neg (by omega), wI_i, if_pos ⟨rfl, rfl⟩]) (fun a i ha => by rw [wI_i, if_neg (by omega), wI_i, if_neg (by omega), wI_i, if_neg (by omega)]) (fun a i => rfl) (fun z hz => ?_) (fun z y q => ?_), ((kp1.wI (by unfold kc; omega)).wI (by unfold kc; omega)).wI (by unfold kc; omega)⟩
  · rw [wI_i]
    by_cases c : z = o
    · rw [if_pos ⟨rfl, by omega⟩, c]
    · rw [if_neg (by omega), wI_i]
      by_cases c2 : z = g
      · rw [if_pos ⟨rfl, by omega⟩, c2]
        congr 1
        refine bs_ext (fun i _ => ?_)
        have c3 : ¬ g = o := by omega
        unfold fo2
        cases R.T.fo g i <;> cases (i == o) <;> simp [c3]
      · rw [if_neg (by omega), wI_i, if_neg (by omega), s1.fo z hz]
        congr 1
        refine bs_ext (fun i _ => ?_)
        have x1 : (z == g) = false := beq_eq_false_iff_ne.2 c2
        have x2 : (z == o) = false := beq_eq_false_iff_ne.2 c
        show R.T.fo z i = (R.T.fo z i || (z == g && i == o) || (z == o && i == g))
        rw [x1, x2, Bool.false_and, Bool.false_and, Bool.or_false, Bool.or_false]
  · unfold fo2 at q
    simp only [Bool.or_eq_true, Bool.and_eq_true, beq_iff_eq] at q
    rcases q with (q | q) | q
    · exact s1.fg z y q
    · exact ⟨show z < R.T.nG by omega, show y < R.T.nG by omega⟩
    · exact ⟨show z < R.T.nG by omega, show y < R.T.nG by omega⟩
def sF0 (q24 : Mem) : Option Mem := if (q24.1 243 13) = 0 then (fX11_tellFoes q24).bind fun q25 => some q25 else some q24
theorem tell_foe {m : Mem} (h : inb (m.1 243 11) 403) (k : m.1 246 (m.1 243 11).toNatClampNeg = 22) (h19 : inb (m.1 243 19) 2) : fX11_tellOne m = (fX11_roomFor (m.1 261 (m.1 243 19).toNatClampNeg) 8 m).bind sF0 := by
  unfold fX11_tellOne
  rw [if_pos h, if_neg (show ¬ m.1 246 (m.1 243 11).toNatClampNeg = 20 by rw [k]; decide), if_neg (show ¬ m.1 246 (m.1 243 11).toNatClampNeg = 21 by rw [k]; decide), if_pos k, if_pos h19]
  rfl
theorem late2 (l : Option (Nat × Nat)) (f s f' s' : Nat) (c : Bool) : late (late l true f s) c f' s' = late l true f s := by cases l <;> rfl
