/-! ===== the reference reads a term: units; the whole ===== -/
theorem rES.on {K V : Nat → Nat} {N : Nat → List Nat} {P : Nat → Nat} {B : Nat} {m0 : Mem} {q : Nat} {m : Mem} {t : Nat} {w : List Nat} {o : Nat} {c : Cd} (h : rES K V N P B m0 q 0 m t w o c) (lt : t < 400) (k2 : 2 ≤ K t) : rES K V N P B m0 q 0 (wI m 243 11 (nI (t + 1))) (t + 1) w o c := by
  obtain ⟨a1, a2, a3, a4, a5, a6, a7, a8, a9, a10, a11, a12, a13, a14, a15, a16⟩ := h
  have k : ∀ z j, ¬ (z = 243 ∧ j = 11) → (wI m 243 11 (nI (t + 1))).1 z j = m.1 z j := by
    intro z j hz
    rw [wI_i, if_neg hz]
  refine ⟨a1.fr (fun z j z1 z2 => ⟨k z j (by omega), rfl⟩), by rw [wI_i, if_pos ⟨rfl, rfl⟩], by omega, ?_, by rw [k _ _ (by omega)]; exact a5, by rw [k _ _ (by omega)]; exact a6, a7, by rw [k _ _ (by omega)]; exact a8, wtk_ext a9 (fun z _ => k _ _ (by omega)), a10, a11, by rw [k _ _ (by omega)]; exact a12, by omega, rCode_ext a14 (fun z _ _ => ⟨k _ _ (by omega), k _ _ (by omega)⟩), a15.wI (by simp [WQ, WX11_expression, inW]), fun z hz => ?_⟩
  · intro j hj
    rcases (show j < t ∨ j = t by omega) with z | z
    · exact a4 j z
    · rw [z]; exact k2
  · rw [k _ _ (by omega), k _ _ (by omega)]
    exact a16 z hz
theorem EA_f {n f : Nat} {m : Mem} (h : 0 < m.1 243 13) (h2 : ¬ m.1 243 13 = 0) : EA n (f + 1) m = some m := by
  unfold EA
  rw [fX11_expression_23, r_is_f h2, bind_s, if_neg Bool.false_ne_true]
  unfold KA fX11_unit
  rw [r_is_f h2, bind_s, if_neg Bool.false_ne_true, if_neg h2, r_fail_f h, bind_s, bind_s, if_pos h]
theorem r_leaf {K V : Nat → Nat} {N : Nat → List Nat} {P : Nat → Nat} {B : Nat} {m0 : Mem} {q n f : Nat} {m : Mem} {t : Nat} {w : List Nat} {o : Nat} {c : Cd} {x : Ins} {k : Nat} (hB : B + 400 < 840) (h : rES K V N P B m0 q 0 m t w o c) (hk : K t = k) (k2 : 2 ≤ k) (hn : 1000 ≤ n + t) (hE : EA n f m = (fX11_emit (nI x.1) (nI x.2) m).bind fun q7 => (fX11_goesOn q7).bind fun q8 => if 0 < (q8.1 243 13) then some q8 else EB n FU q8) :
    (∀ cu t', (pb (tkP K k t) fun _ t1 => (.ok ([x], t1) : PR Cd)) = .ok (cu, t') → ∃ g n' m', EA n f m = EB n' g m' ∧ 4096 ≤ g ∧ 1000 ≤ n' + t' ∧ rES K V N P B m0 q 0 m' t' w o (c ++ cu)) ∧ (∀ fl t', (pb (tkP K k t) fun _ t1 => (.ok ([x], t1) : PR Cd)) = .error (fl, t') → rFl P B q m0 (EA n f m) fl t') := by
  have hh := h
  obtain ⟨a1, a2, a3, a4, a5, a6, a7, a8, a9, a10, a11, a12, a13, a14, a15, a16⟩ := h
  obtain ⟨m1, b1, b2, b3, b4, b5, b6⟩ := r_emit (m := m) (a := nI x.1) (v := nI x.2) (by omega) a12
  have kp : ∀ z j, ¬ (z = 271 ∨ z = 272 ∨ (z = 243 ∧ j = 42)) → m1.1 z j = m.1 z j := fun z j hz => (b6 z j hz).1
  have f1 : FQ B q m0 m1 := a15.em (frX11_emit _ _ _ _ b1) b5 (by omega) (by omega)
  rw [hE, b1, bind_s]
  have t1 : m1.1 243 11 = nI t := by rw [kp _ _ (by omega)]; exact a2
  have f13 : m1.1 243 13 = 0 := by rw [kp _ _ (by omega)]; exact a5
  by_cases lt : t < 400
  · have ek : tkP K k t = .ok ((), t + 1) := by unfold tkP; rw [if_pos hk, if_pos lt]
    rw [ek]
    refine ⟨fun cu t' e => ?_, fun fl t' e => (by cases e)⟩
    cases e
    rw [r_goesOn lt t1, bind_s, if_neg (by rw [wI_i, if_neg (by omega), f13]; decide)]
    refine ⟨FU, n, _, rfl, by unfold FU; omega, by omega, ?_⟩
    have k3 : ∀ z j, ¬ (z = 271 ∨ z = 272 ∨ (z = 243 ∧ (j = 42 ∨ j = 11))) → (wI m1 243 11 (nI (t + 1))).1 z j = m.1 z j := by
      intro z j hz
      rw [wI_i, if_neg (by omega), kp _ _ (by omega)]
    refine ⟨a1.fr (fun z j z1 z2 => ⟨k3 z j (by omega), (b6 z j (by omega)).2⟩), by rw [wI_i, if_pos ⟨rfl, rfl⟩], by omega, ?_, by rw [k3 _ _ (by omega)]; exact a5, by rw [k3 _ _ (by omega)]; exact a6, a7, by rw [k3 _ _ (by omega)]; exact a8, wtk_ext a9 (fun z _ => k3 _ _ (by omega)), a10, a11, ?_, ?_, ?_, f1.wI (by simp [WQ, WX11_expression, inW]), ?_⟩
    · intro j hj
      rcases (show j < t ∨ j = t by omega) with z | z
      · exact a4 j z
      · rw [z, hk]; exact k2
    · rw [wI_i, if_neg (by omega), b2, List.length_append]; rfl
    · simp only [List.length_append, List.length_cons, List.length_nil]; omega
    · refine rCode_cat (rCode_ext a14 (fun z _ z2 => ?_)) ⟨by rw [wI_i, if_neg (by omega)]; exact b3, fun _ => by rw [wI_i, if_neg (by omega)]; exact b4, trivial⟩
      have := b5 z (by omega)
      rw [wI_i, if_neg (by omega), wI_i, if_neg (by omega)]
      exact this
    · intro z hz
      have := b5 z (by omega)
      have y := a16 z hz
      rw [wI_i, if_neg (by omega), wI_i, if_neg (by omega)]
      exact ⟨this.1.trans y.1, this.2.trans y.2⟩
  · have ek : tkP K k t = .error (2, t) := by unfold tkP; rw [if_pos hk, if_neg lt]
    rw [ek]
    refine ⟨fun cu t' e => (by cases e), fun fl t' e => ?_⟩
    cases e
    have p1 : m1.1 247 t = nI (P t) := by rw [kp _ _ (by omega)]; exact (a1 t a3 a4).2.1
    rw [r_goesOn_f (by omega) t1 f13 p1, bind_s, if_pos (by rw [wI_i, if_neg (by omega), wI_i, if_pos ⟨rfl, rfl⟩]; decide)]
    exact ⟨_, rfl, by rw [wI_i, if_neg (by omega), wI_i, if_pos ⟨rfl, rfl⟩]; rfl, by rw [wI_i, if_pos ⟨rfl, rfl⟩], (f1.wI (by simp [WQ, WX11_expression, inW])).wI (by simp [WQ, WX11_expression, inW])⟩
theorem r_goesOn_ff {m : Mem} {t : Nat} (ht : t ≤ 400) (h11 : m.1 243 11 = nI t) (h13 : 0 < m.1 243 13) : ∃ q, fX11_goesOn m = some q ∧ (q = m ∨ q = wI m 243 11 (nI (t + 1))) := by
  by_cases c : t < 400
  · exact ⟨_, r_goesOn c h11, Or.inr rfl⟩
  · refine ⟨m, ?_, Or.inl rfl⟩
    unfold fX11_goesOn
    rw [h11, if_pos (by rw [show t = 400 by omega]; rfl), r_fail_f h13, bind_s]
theorem EB_close {K V : Nat → Nat} {N : Nat → List Nat} {P : Nat → Nat} {B : Nat} {m0 : Mem} {q : Nat} {n g : Nat} {m : Mem} {t : Nat} {p w : List Nat} {o : Nat} {c : Cd} (hB : B + 400 < 840) (hK : ∀ t, K t < 34) (h : rES K V N P B m0 q 0 m t (p ++ 6 :: w) (o + 1) c) (hp : pend K 6 p t) :
    (K t = 12 → t < 400 → ∃ m', EB n (g + 2) m = EB n (g + 1) m' ∧ rES K V N P B m0 q 0 m' (t + 1) w o (c ++ flu p)) ∧ (K t = 12 → t = 400 → rFl P B q m0 (EB n (g + 2) m) 2 t) ∧ (K t ≠ 12 → rFl P B q m0 (EB n (g + 2) m) 1 t) := by
  have hh := h
  obtain ⟨a1, a2, a3, a4, a5, a6, a7, a8, a9, a10, a11, a12, a13, a14, a15, a16⟩ := h
  have tk := a1 t a3 a4
  have ka := kR_a (K t) (hK t)
  obtain ⟨p1, p2, p3, p4, p5⟩ := hp
  have p4 := p4 rfl
  rw [if_pos rfl] at p5
  have is : ∀ x, x < 2 ^ 31 → fX11_is (nI x) m = some (decide (kR (K t) = x)) := fun x hx => r_is a3 a2 a5 tk.1 (hK t) hx
  have op : (0 : Int32) < nI (o + 1) := by rw [L_0]; exact nI_lt (by omega) (by omega)
  obtain ⟨m1, e1, e2⟩ := r_comesOut hB 0 p (6 :: w) FU m t (o + 1) c (by unfold FU; omega) hh (by
      intro v hv
      have := p1 v hv
      exact ⟨by omega, Or.inl rfl⟩) (Or.inr ⟨6, w, rfl, Or.inl rfl⟩)
  obtain ⟨b1, b2, b3, b4, b5, b6, b7, b8, b9, b10, b11, b12, b13, b14, b15, b16⟩ := e2
  rw [List.length_cons] at b8 b11 b13
  have x12 : (wI m1 243 46 (nI w.length)).1 243 12 = nI (o + 1) := by rw [wI_i, if_neg (by omega)]; exact b6
  have k3 : ∀ z j, ¬ (z = 243 ∧ (j = 46 ∨ j = 12)) → (wI (wI m1 243 46 (nI w.length)) 243 12 (nI o)).1 z j = m1.1 z j := by
    intro z j hz
    rw [wI_i, if_neg (by omega), wI_i, if_neg (by omega)]
  have es : rES K V N P B m0 q 0 (wI (wI m1 243 46 (nI w.length)) 243 12 (nI o)) t w o (c ++ flu p) := by
    refine ⟨b1.fr (fun z j z1 z2 => ⟨k3 z j (by omega), rfl⟩), by rw [k3 _ _ (by omega)]; exact b2, b3, b4, by rw [k3 _ _ (by omega)]; exact b5, by rw [wI_i, if_pos ⟨rfl, rfl⟩], by omega, by rw [wI_i, if_neg (by omega), wI_i, if_pos ⟨rfl, rfl⟩], wtk_ext b9.2 (fun z _ => k3 _ _ (by omega)), fun v hv => b10 v (List.mem_cons_of_mem _ hv), by omega, by rw [k3 _ _ (by omega)]; exact b12, by omega, rCode_ext b14 (fun z _ _ => ⟨k3 _ _ (by omega), k3 _ _ (by omega)⟩), (b15.wI (by simp [WQ, WX11_expression, inW])).wI (by simp [WQ, WX11_expression, inW]), fun z hz => ?_⟩
    rw [k3 _ _ (by omega), k3 _ _ (by omega)]
    exact b16 z hz
  have yes : K t = 12 → EB n (g + 2) m = (fX11_goesOn (wI (wI m1 243 46 (nI w.length)) 243 12 (nI o))).bind fun q14 => EB n (g + 1) q14 := by
    intro k
    unfold EB
    rw [show g + 2 = (g + 1) + 1 by omega, fX11_expression_96, show (7 : Int32) = nI 7 from rfl, is 7 (by omega), bind_s, if_pos (by rw [decide_eq_true_eq, ka.2.1]; exact k), a6, if_pos op, show fX11_comesOut 0 m = some m1 from e1, bind_s, b8, nI_pred, nm_ap, x12, nI_pred, nm_ap]
  refine ⟨fun k lt => ?_, fun k t4 => ?_, fun k => ?_⟩
  · refine ⟨_, ?_, es.on lt (by omega)⟩
    rw [yes k, r_goesOn lt es.2.1, bind_s]
  · rw [yes k, r_goesOn_f t4 es.2.1 es.2.2.2.2.1 (es.1 t es.2.2.1 es.2.2.2.1).2.1, bind_s]
    have := EB_f (n := n) (g := g) (f := 2) (t0 := t) hB (Or.inr rfl) (es.fl 2 (nI (P t))) (by rw [wI_i, if_pos ⟨rfl, rfl⟩])
    exact this
  · have fe := r_fail (P := P) (x := 1) (by omega) a2 a5 tk.2.1
    obtain ⟨m', y1, y2, y3, y4⟩ := r_outAll hB (hh.fl 1 (nI (P t)))
    refine ⟨m', ?_, y2, by rw [y3, wI_i, if_pos ⟨rfl, rfl⟩], y4⟩
    unfold EB
    rw [show g + 2 = (g + 1) + 1 by omega, fX11_expression_96, show (7 : Int32) = nI 7 from rfl, is 7 (by omega), bind_s, if_neg (by rw [decide_eq_true_eq, ka.2.1]; exact k)]
    unfold fX11_expression_j145_12
    rw [show (8 : Int32) = nI 8 from rfl, is 8 (by omega), bind_s, if_neg (by rw [decide_eq_true_eq, ka.2.2.1]; exact p4.1), show (9 : Int32) = nI 9 from rfl, is 9 (by omega), bind_s, if_neg (by rw [decide_eq_true_eq, ka.2.2.2.1]; exact p4.2), show (10 : Int32) = nI 10 from rfl, is 10 (by omega), bind_s, if_neg (by rw [decide_eq_true_eq, ka.2.2.2.2.1]; exact p2), show (15 : Int32) = nI 15 from rfl, is 15 (by omega), bind_s, if_neg (by rw [decide_eq_true_eq, ka.2.2.2.2.2]; exact p3)]
    unfold fX11_expression_j186_12
    rw [if_pos rfl, a6, if_pos op, fe, bind_s, y1, bind_s]
theorem r_unit {K V : Nat → Nat} {N : Nat → List Nat} {P : Nat → Nat} {B : Nat} {m0 : Mem} {q e D : Nat} {inner : Option (Nat → PR Cd)} (hB : B + 400 < 840) (he : e ≤ 6) (hK : ∀ t, K t < 34) (hi : inner = none ↔ e = 0) (hs : ∀ s, inner = some s → rPp K V N P B m0 q (e - 1) 6 s ∧ gdP K D s) : rU K V N P B m0 q e (uniP K V inner) := by
  intro n f m t w o c h hl ho hf hn
  have hh := h
  obtain ⟨a1, a2, a3, a4, a5, a6, a7, a8, a9, a10, a11, a12, a13, a14, a15, a16⟩ := h
  have tk := a1 t a3 a4
  have ka := kR_a (K t) (hK t)
  have kb := kR_b (K t) (hK t)
  have kc := kR_c (K t) (hK t)
  have klt := kR_lt (K t) (hK t)
  obtain ⟨f0, rfl⟩ : ∃ f0, f = f0 + 1 := ⟨f - 1, by omega⟩
  have is : ∀ x, x < 2 ^ 31 → fX11_is (nI x) m = some (decide (kR (K t) = x)) := fun x hx => r_is a3 a2 a5 tk.1 (hK t) hx
  have bt : inb (nI t) 403 := inbN (by omega) (by omega)
  have ct : (nI t).toNatClampNeg = t := nI_clamp (by omega)
  have bw : inb (nI w.length) 64 := inbN (by omega) (by omega)
  have cw : (nI w.length).toNatClampNeg = w.length := nI_clamp (by omega)
  unfold uniP
  by_cases c1 : K t = 11
  · rw [if_pos c1]
    have is6 : fX11_is 6 m = some true := by rw [show (6 : Int32) = nI 6 from rfl, is 6 (by omega), decide_eq_true (ka.1.2 c1)]
    -- a bracket, behind which there is a fault already
    have fl2 : ∀ (m1 : Mem) (X : Mem → Option Mem), m1.1 243 13 = 2 → m1.1 243 14 = nI (P t) → FQ B q m0 m1 → m1.1 243 46 = nI w.length → (∀ m2, 0 < m2.1 243 13 → ¬ m2.1 243 13 = 0 → X m2 = some m2) → rFl P B q m0 (if inb (m1.1 243 46) 64 then nm (wI m1 273 (m1.1 243 46).toNatClampNeg 6) fun μ5 => nm (wI μ5 243 46 ((μ5.1 243 46) + 1)) fun μ6 => X μ6 else none) 2 t := by
      intro m1 X x1 x2 x3 x4 x5
      rw [x4]
      simp only [if_pos bw, cw, nm_ap]
      have e13 : ∀ y, (wI (wI m1 273 w.length 6) 243 46 y).1 243 13 = 2 := fun y => by rw [wI_i, if_neg (by omega), wI_i, if_neg (by omega)]; exact x1
      rw [x5 _ (by rw [e13]; decide) (by rw [e13]; decide)]
      exact ⟨_, rfl, by rw [e13]; rfl, by rw [wI_i, if_neg (by omega), wI_i, if_neg (by omega)]; exact x2, (x3.wI (by simp [WQ, WX11_expression, inW])).wI (by simp [WQ, WX11_expression, inW])⟩
    have loopf : ∀ m2 : Mem, 0 < m2.1 243 13 → ¬ m2.1 243 13 = 0 → (fun zm => fX11_expression_23 0 (KA n) f0 zm) m2 = some m2 := by
      intro m2 y1 y2
      obtain ⟨f1, rfl⟩ : ∃ f1, f0 = f1 + 1 := ⟨f0 - 1, by omega⟩
      exact EA_f y1 y2
    cases inner with
    | none =>
      have e0 : e = 0 := hi.1 rfl
      have o6 : o = 6 := by omega
      refine ⟨fun cu t' e => (by cases e), fun fl t' e => ?_⟩
      cases e
      have fe := r_fail (P := P) (x := 2) (by omega) a2 a5 tk.2.1
      have x12 : (wI (wI m 243 13 2) 243 14 (nI (P t))).1 243 12 = nI 6 := by rw [wI_i, if_neg (by omega), wI_i, if_neg (by omega), a6, o6]
      have start : EA n (f0 + 1) m = (fX11_goesOn (wI (wI (wI m 243 13 2) 243 14 (nI (P t))) 243 12 (nI 7))).bind fun q4 => if inb (q4.1 243 46) 64 then nm (wI q4 273 (q4.1 243 46).toNatClampNeg 6) fun μ5 => nm (wI μ5 243 46 ((μ5.1 243 46) + 1)) fun μ6 => (fun zm => fX11_expression_23 0 (KA n) f0 zm) μ6 else none := by
        unfold EA
        rw [fX11_expression_23, is6, bind_s, if_pos rfl, a6, if_pos (by rw [o6]; rfl), fe, bind_s]
        unfold fX11_expression_j46_23
        rw [x12, nm_ap]
        rfl
      have c13 : (wI (wI (wI m 243 13 2) 243 14 (nI (P t))) 243 12 (nI 7)).1 243 13 = 2 := by rw [wI_i, if_neg (by omega), wI_i, if_neg (by omega), wI_i, if_pos ⟨rfl, rfl⟩]
      have c14 : (wI (wI (wI m 243 13 2) 243 14 (nI (P t))) 243 12 (nI 7)).1 243 14 = nI (P t) := by rw [wI_i, if_neg (by omega), wI_i, if_pos ⟨rfl, rfl⟩]
      have c11 : (wI (wI (wI m 243 13 2) 243 14 (nI (P t))) 243 12 (nI 7)).1 243 11 = nI t := by rw [wI_i, if_neg (by omega), wI_i, if_neg (by omega), wI_i, if_neg (by omega)]; exact a2
      have c46 : (wI (wI (wI m 243 13 2) 243 14 (nI (P t))) 243 12 (nI 7)).1 243 46 = nI w.length := by rw [wI_i, if_neg (by omega), wI_i, if_neg (by omega), wI_i, if_neg (by omega)]; exact a8
      have cF : FQ B q m0 (wI (wI (wI m 243 13 2) 243 14 (nI (P t))) 243 12 (nI 7)) := ((a15.wI (by simp [WQ, WX11_expression, inW])).wI (by simp [WQ, WX11_expression, inW])).wI (by simp [WQ, WX11_expression, inW])
      obtain ⟨q4, z1, z2⟩ := r_goesOn_ff a3 c11 (by rw [c13]; decide)
      rw [start, z1, bind_s]
      rcases z2 with z2 | z2
      · subst z2
        exact fl2 _ _ c13 c14 cF c46 loopf
      · subst z2
        exact fl2 _ _ (by rw [wI_i, if_neg (by omega)]; exact c13) (by rw [wI_i, if_neg (by omega)]; exact c14) (cF.wI (by simp [WQ, WX11_expression, inW])) (by rw [wI_i, if_neg (by omega)]; exact c46) loopf
    | some s =>
      obtain ⟨hP, gP⟩ := hs s rfl
      have e1 : 1 ≤ e := by
        rcases Nat.eq_zero_or_pos e with z | z
        · have := hi.2 z; cases this
        · exact z
      have start : EA n (f0 + 1) m = (fX11_goesOn (wI m 243 12 (nI (o + 1)))).bind fun q4 => if inb (q4.1 243 46) 64 then nm (wI q4 273 (q4.1 243 46).toNatClampNeg 6) fun μ5 => nm (wI μ5 243 46 ((μ5.1 243 46) + 1)) fun μ6 => (fun zm => fX11_expression_23 0 (KA n) f0 zm) μ6 else none := by
        unfold EA
        rw [fX11_expression_23, is6, bind_s, if_pos rfl, a6, if_neg (show ¬ nI o = 6 from fun z => by have := (nI_eq (b := 6) (by omega) (by omega)).1 z; omega)]
        unfold fX11_expression_j46_23
        rw [a6, nI_1, nm_ap]
      have c11 : (wI m 243 12 (nI (o + 1))).1 243 11 = nI t := by rw [wI_i, if_neg (by omega)]; exact a2
      have c13 : (wI m 243 12 (nI (o + 1))).1 243 13 = 0 := by rw [wI_i, if_neg (by omega)]; exact a5
      have c46 : (wI m 243 12 (nI (o + 1))).1 243 46 = nI w.length := by rw [wI_i, if_neg (by omega)]; exact a8
      have cF : FQ B q m0 (wI m 243 12 (nI (o + 1))) := a15.wI (by simp [WQ, WX11_expression, inW])
      by_cases lt : t < 400
      · have ek : tkP K 11 t = .ok ((), t + 1) := by unfold tkP; rw [if_pos c1, if_pos lt]
        rw [ek]
        show (∀ cu t', (pb (s (t + 1)) fun c t2 => pb (tkP K 12 t2) fun _ t3 => (.ok (c, t3) : PR Cd)) = .ok (cu, t') → _) ∧ (∀ fl t', (pb (s (t + 1)) fun c t2 => pb (tkP K 12 t2) fun _ t3 => (.ok (c, t3) : PR Cd)) = .error (fl, t') → _)
        rw [start, r_goesOn lt c11, bind_s]
        have d46 : (wI (wI m 243 12 (nI (o + 1))) 243 11 (nI (t + 1))).1 243 46 = nI w.length := by rw [wI_i, if_neg (by omega)]; exact c46
        rw [d46]
        simp only [if_pos bw, cw, nm_ap]
        have d46b : (wI (wI (wI m 243 12 (nI (o + 1))) 243 11 (nI (t + 1))) 273 w.length 6).1 243 46 = nI w.length := by rw [wI_i, if_neg (by omega)]; exact d46
        rw [d46b, nI_1]
        generalize hm4 : wI (wI (wI (wI m 243 12 (nI (o + 1))) 243 11 (nI (t + 1))) 273 w.length 6) 243 46 (nI (w.length + 1)) = m4
        have k4 : ∀ z j, ¬ (z = 243 ∧ (j = 46 ∨ j = 12 ∨ j = 11)) → ¬ (z = 273 ∧ j = w.length) → m4.1 z j = m.1 z j := by
          subst hm4
          intro z j z1 z2
          rw [wI_i, if_neg (by omega), wI_i, if_neg (by omega), wI_i, if_neg (by omega), wI_i, if_neg (by omega)]
        have l4 : ∀ z j, m4.2 z j = m.2 z j := by subst hm4; intro z j; rfl
        have es : rES K V N P B m0 q 0 m4 (t + 1) (6 :: w) (o + 1) c := by
          refine ⟨a1.fr (fun z j z1 z2 => ⟨k4 z j (by omega) (by omega), l4 z j⟩), ?_, by omega, ?_, by rw [k4 _ _ (by omega) (by omega)]; exact a5, ?_, by omega, ?_, ⟨?_, wtk_ext a9 (fun z hz => k4 _ _ (by omega) (by omega))⟩, ?_, by rw [List.length_cons]; omega, by rw [k4 _ _ (by omega) (by omega)]; exact a12, by rw [List.length_cons]; omega, rCode_ext a14 (fun z _ _ => ⟨k4 _ _ (by omega) (by omega), k4 _ _ (by omega) (by omega)⟩), ?_, fun z hz => ?_⟩
          · rw [← hm4, wI_i, if_neg (by omega), wI_i, if_neg (by omega), wI_i, if_pos ⟨rfl, rfl⟩]
          · intro j hj
            rcases (show j < t ∨ j = t by omega) with z | z
            · exact a4 j z
            · rw [z]; omega
          · rw [← hm4, wI_i, if_neg (by omega), wI_i, if_neg (by omega), wI_i, if_neg (by omega), wI_i, if_pos ⟨rfl, rfl⟩]
          · rw [← hm4, wI_i, if_pos ⟨rfl, rfl⟩, List.length_cons]
          · rw [← hm4, wI_i, if_neg (by omega), wI_i, if_pos ⟨rfl, rfl⟩]; rfl
          · intro v hv
            rcases List.mem_cons.1 hv with z | z
            · exact Or.inl z
            · exact a10 v z
          · subst hm4
            exact ((cF.wI (by simp [WQ, WX11_expression, inW])).wI (by simp [WQ, WX11_expression, inW])).wI (by simp [WQ, WX11_expression, inW])
          · rw [k4 _ _ (by omega) (by omega), k4 _ _ (by omega) (by omega)]
            exact a16 z hz
        obtain ⟨r1, r2⟩ := hP n f0 m4 (t + 1) (6 :: w) (o + 1) c es (by rw [if_pos rfl, List.length_cons]; omega) (by omega) (by omega) (by omega) (Or.inr ⟨6, w, rfl, Or.inl rfl⟩)
        show (∀ cu t', _ → ∃ g n' m', EA n f0 m4 = EB n' g m' ∧ _) ∧ (∀ fl t', _ → rFl P B q m0 (EA n f0 m4) fl t')
        cases ess : s (t + 1) with
        | error z =>
          obtain ⟨fl0, t0⟩ := z
          refine ⟨fun cu t' e => (by cases e), fun fl t' e => ?_⟩
          cases e
          exact r2 fl0 t0 ess
        | ok z =>
          obtain ⟨c2, t2⟩ := z
          obtain ⟨g', n', m', p', e', y1, y2, y3, y4, y5, y6⟩ := r1 c2 t2 ess
          obtain ⟨g1, rfl⟩ : ∃ g1, g' = g1 + 2 := ⟨g' - 2, by omega⟩
          obtain ⟨x1, x2, x3⟩ := EB_close (n := n') (g := g1) hB hK y4 y6
          show (∀ cu t', (pb (tkP K 12 t2) fun _ t3 => (.ok (c2, t3) : PR Cd)) = .ok (cu, t') → _) ∧ (∀ fl t', (pb (tkP K 12 t2) fun _ t3 => (.ok (c2, t3) : PR Cd)) = .error (fl, t') → _)
          have t24 := y4.2.2.1
          by_cases k12 : K t2 = 12
          · by_cases lt2 : t2 < 400
            · have ek2 : tkP K 12 t2 = .ok ((), t2 + 1) := by unfold tkP; rw [if_pos k12, if_pos lt2]
              rw [ek2]
              refine ⟨fun cu t' e => ?_, fun fl t' e => (by cases e)⟩
              cases e
              obtain ⟨m5, u1, u2⟩ := x1 k12 lt2
              refine ⟨g1 + 1, n', m5, y1.trans u1, by omega, by omega, ?_⟩
              rw [y5, ← List.append_assoc]
              exact u2
            · have ek2 : tkP K 12 t2 = .error (2, t2) := by unfold tkP; rw [if_pos k12, if_neg lt2]
              rw [ek2]
              refine ⟨fun cu t' e => (by cases e), fun fl t' e => ?_⟩
              cases e
              rw [y1]
              exact x2 k12 (by omega)
          · have ek2 : tkP K 12 t2 = .error (1, t2) := by unfold tkP; rw [if_neg k12]
            rw [ek2]
            refine ⟨fun cu t' e => (by cases e), fun fl t' e => ?_⟩
            cases e
            rw [y1]
            exact x3 k12
      · have ek : tkP K 11 t = .error (2, t) := by unfold tkP; rw [if_pos c1, if_neg lt]
        rw [ek]
        refine ⟨fun cu t' e => (by cases e), fun fl t' e => ?_⟩
        cases e
        have p1 : (wI m 243 12 (nI (o + 1))).1 247 t = nI (P t) := by rw [wI_i, if_neg (by omega)]; exact tk.2.1
        rw [start, r_goesOn_f (by omega) c11 c13 p1, bind_s]
        exact fl2 _ _ (by rw [wI_i, if_neg (by omega), wI_i, if_pos ⟨rfl, rfl⟩]) (by rw [wI_i, if_pos ⟨rfl, rfl⟩]) ((cF.wI (by simp [WQ, WX11_expression, inW])).wI (by simp [WQ, WX11_expression, inW])) (by rw [wI_i, if_neg (by omega), wI_i, if_neg (by omega)]; exact c46) loopf
  · rw [if_neg c1]
    have nis6 : fX11_is 6 m = some false := by rw [show (6 : Int32) = nI 6 from rfl, is 6 (by omega), decide_eq_false (fun z => c1 (ka.1.1 z))]
    have start : EA n (f0 + 1) m = KA n m := by
      unfold EA
      rw [fX11_expression_23, nis6, bind_s, if_neg Bool.false_ne_true]
    by_cases c2 : 25 ≤ K t ∧ K t ≤ 33
    · rw [if_pos c2]
      obtain ⟨r1, r2⟩ := r_leaf (n := n) (f := f0 + 1) (x := (1, K t - 25)) hB hh rfl (by omega) hn (by
        rw [start]
        unfold KA fX11_unit
        have k7 : kR (K t) = K t + 7 := kR_w (by omega)
        rw [show (2 : Int32) = nI 2 from rfl, is 2 (by omega), bind_s, if_neg (by rw [decide_eq_true_eq, kb.1]; omega), if_pos a5, a2]
        simp only [if_pos bt, ct]
        rw [tk.1, k7, if_neg (show ¬ nI (K t + 7) < 32 by rw [L_32]; exact nI_nlt (by omega) (by omega)), if_neg (show ¬ (40 : Int32) < nI (K t + 7) by rw [L_40]; exact nI_nlt (by omega) (by omega)), show nI (K t + 7) - 32 = nI (K t - 25) by rw [L_32, pk_sub (by omega)]; congr 1]
        rw [show (1 : Int32) = nI 1 from rfl]
        show ((fX11_emit (nI 1) (nI (K t - 25)) m).bind fun q5 => (fX11_goesOn q5).bind fun q6 => some q6).bind _ = _
        cases fX11_emit (nI 1) (nI (K t - 25)) m with
        | none => rfl
        | some q5 =>
          rw [bind_s, bind_s]
          cases fX11_goesOn q5 with
          | none => rfl
          | some q6 => rfl)
      refine ⟨fun cu t' e => ?_, r2⟩
      obtain ⟨g, n', m', y1, y2, y3⟩ := r1 cu t' e
      exact ⟨g, n', m', y1, by omega, y3⟩
    · rw [if_neg c2]
      by_cases c3 : K t = 3
      · obtain ⟨r1, r2⟩ := r_leaf (n := n) (f := f0 + 1) (x := (0, V t)) hB hh c3 (by omega) hn (by
          rw [start]
          unfold KA fX11_unit
          rw [show (2 : Int32) = nI 2 from rfl, is 2 (by omega), bind_s, if_pos (by rw [decide_eq_true_eq, kb.1]; exact c3), a2]
          simp only [if_pos bt, ct]
          rw [tk.2.2.1 c3]
          show ((fX11_emit (nI 0) (nI (V t)) m).bind fun q5 => (fX11_goesOn q5).bind fun q6 => some q6).bind _ = _
          cases fX11_emit (nI 0) (nI (V t)) m with
          | none => rfl
          | some q5 =>
            rw [bind_s, bind_s]
            cases fX11_goesOn q5 with
            | none => rfl
            | some q6 => rfl)
        refine ⟨fun cu t' e => ?_, r2⟩
        obtain ⟨g, n', m', y1, y2, y3⟩ := r1 cu t' e
        exact ⟨g, n', m', y1, by omega, y3⟩
      · have ek : tkP K 3 t = .error (1, t) := by unfold tkP; rw [if_neg c3]
        rw [ek]
        refine ⟨fun cu t' e => (by cases e), fun fl t' e => ?_⟩
        cases e
        rw [start]
        unfold KA fX11_unit
        have fe := r_fail (P := P) (x := 1) (by omega) a2 a5 tk.2.1
        have e13 : (wI (wI m 243 13 1) 243 14 (nI (P t))).1 243 13 = 1 := by rw [wI_i, if_neg (by omega), wI_i, if_pos ⟨rfl, rfl⟩]
        have res : ((fX11_fail 1 m).bind fun q3 => some q3).bind (fun q9 => if 0 < (q9.1 243 13) then some q9 else EB n FU q9) = some (wI (wI m 243 13 1) 243 14 (nI (P t))) := by
          rw [fe, bind_s, bind_s, if_pos (by rw [e13]; decide)]
        refine ⟨wI (wI m 243 13 1) 243 14 (nI (P t)), ?_, by rw [e13]; rfl, by rw [wI_i, if_pos ⟨rfl, rfl⟩], (a15.wI (by simp [WQ, WX11_expression, inW])).wI (by simp [WQ, WX11_expression, inW])⟩
        rw [show (2 : Int32) = nI 2 from rfl, is 2 (by omega), bind_s, if_neg (by rw [decide_eq_true_eq, kb.1]; exact c3), if_pos a5, a2]
        simp only [if_pos bt, ct]
        rw [tk.1]
        by_cases c4 : kR (K t) < 32
        · rw [if_pos (show nI (kR (K t)) < 32 by rw [L_32]; exact nI_lt c4 (by omega))]; exact res
        · have := kc.2.2.2
          have := hK t
          omega

theorem r_exp {K V : Nat → Nat} {N : Nat → List Nat} {P : Nat → Nat} {B : Nat} {m0 : Mem} {q : Nat} (hB : B + 400 < 840) (hK : ∀ t, K t < 34) : ∀ e, e ≤ 6 → rPp K V N P B m0 q e 6 (expP K V e)
  | 0, _ => by
    have hU : rU K V N P B m0 q 0 (uniP K V none) := r_unit (D := 0) hB (by omega) hK (by simp) (by intro s z; cases z)
    have gU : gdP K 14 (uniP K V none) := gd_uni (by omega) (by intro s z; cases z)
    have gP : gdP K 13 (proP K (uniP K V none)) := gd_pro gU
    exact r_sum hB (by omega) hK gP (r_pro hB (by omega) hK gU hU)
  | e + 1, he => by
    have ih := r_exp (N := N) (P := P) (m0 := m0) (q := q) (V := V) hB hK e (by omega)
    have gE := gd_exp (K := K) (V := V) e (by omega)
    have hU : rU K V N P B m0 q (e + 1) (uniP K V (some (expP K V e))) := r_unit (D := 2 * (6 - e)) hB he hK ⟨fun z => (by cases z), fun z => (by omega)⟩ (by
      intro s z
      cases z
      exact ⟨ih, gE⟩)
    have gU : gdP K (2 * (6 - e)) (uniP K V (some (expP K V e))) := gd_uni (by omega) (by intro s z; cases z; exact gE)
    have gU2 : gdP K (2 * (6 - (e + 1)) + 2) (uniP K V (some (expP K V e))) := by rw [show 2 * (6 - (e + 1)) + 2 = 2 * (6 - e) by omega]; exact gU
    have gP : gdP K (2 * (6 - (e + 1)) + 1) (proP K (uniP K V (some (expP K V e)))) := gd_pro gU2
    exact r_sum hB he hK gP (r_pro hB he hK gU2 hU)
/-- a whole term: where no fault is, nothing waits and nothing is open -/
theorem r_expression {K V : Nat → Nat} {N : Nat → List Nat} {P : Nat → Nat} {B : Nat} {m : Mem} {q t : Nat} (hB : B + 400 < 840) (hK : ∀ t, K t < 34) (a1 : rTK K V N P m) (a2 : m.1 243 11 = nI t) (a3 : t ≤ 400) (a4 : ∀ j, j < t → 2 ≤ K j) (a5 : m.1 243 13 = 0) (a6 : m.1 243 12 = 0) (a7 : m.1 243 42 = nI q) (a8 : q ≤ B + t) :
    (∀ cu t', expP K V 6 t = .ok (cu, t') → ∃ m', fX11_expression m = some m' ∧ rES K V N P B m q 0 m' t' [] 0 cu) ∧ (∀ fl t', expP K V 6 t = .error (fl, t') → rFl P B q m (fX11_expression m) fl t') := by
  have k1 : ∀ z j, ¬ (z = 243 ∧ j = 46) → (wI m 243 46 0).1 z j = m.1 z j := by
    intro z j hz
    rw [wI_i, if_neg hz]
  have es : rES K V N P B m q 0 (wI m 243 46 0) t [] 0 [] := by
    refine ⟨a1.fr (fun z j z1 z2 => ⟨k1 z j (by omega), rfl⟩), by rw [k1 _ _ (by omega)]; exact a2, a3, a4, by rw [k1 _ _ (by omega)]; exact a5, by rw [k1 _ _ (by omega)]; exact a6, by omega, by rw [wI_i, if_pos ⟨rfl, rfl⟩]; rfl, trivial, fun v hv => (by simp at hv), by simp, by rw [k1 _ _ (by omega)]; exact a7, by simpa using a8, trivial, FQ.rfl.wI (by simp [WQ, WX11_expression, inW]), fun z hz => ⟨k1 _ _ (by omega), k1 _ _ (by omega)⟩⟩
  have start : fX11_expression m = EA 4095 FU (wI m 243 46 0) := by
    unfold fX11_expression
    rw [nm_ap, k1 243 12 (by omega), a6]
    exact exp12 (n := 4095) es.2.2.2.2.1
  obtain ⟨r1, r2⟩ := r_exp (N := N) (P := P) (m0 := m) (q := q) (V := V) hB hK 6 (by omega) 4095 FU (wI m 243 46 0) t [] 0 [] es (by simp) (by omega) (by unfold FU; omega) (by omega) (Or.inl rfl)
  rw [start]
  refine ⟨fun cu t' e => ?_, r2⟩
  obtain ⟨g, n', m', p', e', y1, y2, y3, y4, y5, y6⟩ := r1 cu t' e
  obtain ⟨g1, rfl⟩ : ∃ g1, g = g1 + 1 := ⟨g - 1, by omega⟩
  rw [List.append_nil, List.nil_append] at y4
  have hh := y4
  obtain ⟨b1, b2, b3, b4, b5, b6, b7, b8, b9, b10, b11, b12, b13, b14, b15, b16⟩ := y4
  obtain ⟨p1, p2, p3, p4, p5⟩ := y6
  have p4 := p4 rfl
  have ka := kR_a (K t') (hK t')
  have is : ∀ x, x < 2 ^ 31 → fX11_is (nI x) m' = some (decide (kR (K t') = x)) := fun x hx => r_is b3 b2 b5 (b1 t' b3 b4).1 (hK t') hx
  have hh2 : rES K V N P B m q 0 m' t' (p' ++ []) 0 e' := by rw [List.append_nil]; exact hh
  obtain ⟨m1, e1, e2⟩ := r_comesOut hB 0 p' [] FU m' t' 0 e' (by unfold FU; omega) hh2 (by
      intro v hv
      have := p1 v hv
      exact ⟨by omega, Or.inl rfl⟩) (Or.inl rfl)
  refine ⟨m1, ?_, by rw [y5]; exact e2⟩
  rw [y1]
  have fin : fX11_expression_j145_12 (fun z0 zm => fX11_expression_12 0 Kf n' z0 zm) Kf 0 m' = some m1 := by
    unfold fX11_expression_j145_12
    rw [show (8 : Int32) = nI 8 from rfl, is 8 (by omega), bind_s, if_neg (by rw [decide_eq_true_eq, ka.2.2.1]; exact p4.1), show (9 : Int32) = nI 9 from rfl, is 9 (by omega), bind_s, if_neg (by rw [decide_eq_true_eq, ka.2.2.2.1]; exact p4.2), show (10 : Int32) = nI 10 from rfl, is 10 (by omega), bind_s, if_neg (by rw [decide_eq_true_eq, ka.2.2.2.2.1]; exact p2), show (15 : Int32) = nI 15 from rfl, is 15 (by omega), bind_s, if_neg (by rw [decide_eq_true_eq, ka.2.2.2.2.2]; exact p3)]
    unfold fX11_expression_j186_12
    rw [if_pos rfl, b6, if_neg (by decide), show fX11_comesOut 0 m' = some m1 from e1, bind_s]
  unfold EB
  rw [fX11_expression_96, show (7 : Int32) = nI 7 from rfl, is 7 (by omega), bind_s, b6, if_neg (show ¬ (0 : Int32) < nI 0 by decide)]
  split <;> exact fin
