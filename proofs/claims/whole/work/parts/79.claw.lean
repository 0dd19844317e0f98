/-! ===== laws: the grammar, and the component ===== -/
def brP (K V : Nat → Nat) (t : Nat) : PR (Cd × Cd × Cd) := pb (tkP K 22 t) fun _ t1 => pb (expP K V 6 t1) fun c1 t2 => pb (tkP K 10 t2) fun _ t3 => pb (expP K V 6 t3) fun c2 t4 => pb (tkP K 23 t4) fun _ t5 => pb (expP K V 6 t5) fun c3 t6 => pb (tkP K 24 t6) fun _ t7 => .ok ((c1, c2, c3), t7)
def lasP (K V : Nat → Nat) (t : Nat) : PR LawT := pb (expP K V 6 t) fun c t1 => pb (tkP K 4 t1) fun _ t2 => .ok (([], c), t2)
def lawL (K V : Nat → Nat) : Nat → Nat → PR LawT
  | 0, t => if K t = 22 then .error (2, t) else lasP K V t
  | r + 1, t => if K t = 22 then pb (brP K V t) fun b t1 => pb (lawL K V r t1) fun l t2 => .ok ((b :: l.1, l.2), t2) else lasP K V t
def cRes {α : Type} (R : PR α) (X : Option (Bool × Mem)) (m : Mem) (Q : α → Nat → Mem → Prop) : Prop :=
  (∀ a t', R = .ok (a, t') → ∃ m', X = some (true, m') ∧ Fr WE m m' ∧ Q a t' m') ∧ (∀ f t', R = .error (f, t') → ∃ m', X = some (false, m') ∧ Fr WE m m' ∧ m'.1 3 0 = nI f ∧ m'.1 3 3 = nI t')
theorem cBind {α β : Type} {R : PR α} {f : α → Nat → PR β} {X : Option (Bool × Mem)} {F : Bool × Mem → Option (Bool × Mem)} {G : Mem → Option (Bool × Mem)} {m : Mem} {Q : α → Nat → Mem → Prop} {Q' : β → Nat → Mem → Prop} (h : cRes R X m Q) (hF : ∀ m', F (false, m') = some (false, m')) (hG : ∀ m', F (true, m') = G m') (k : ∀ a t' m', R = .ok (a, t') → Fr WE m m' → Q a t' m' → cRes (f a t') (G m') m' Q') : cRes (pb R f) (X.bind F) m Q' := by
  obtain ⟨h1, h2⟩ := h
  cases R with
  | error e =>
    obtain ⟨f0, t0⟩ := e
    obtain ⟨m', x1, x2, x3⟩ := h2 f0 t0 rfl
    refine ⟨fun a t' e => (by cases e), fun g t' e => ?_⟩
    cases e
    exact ⟨m', by rw [x1, bind_s, hF], x2, x3⟩
  | ok z =>
    obtain ⟨a0, t0⟩ := z
    obtain ⟨m', x1, x2, x3⟩ := h1 a0 t0 rfl
    obtain ⟨k1, k2⟩ := k a0 t0 m' rfl x2 x3
    refine ⟨fun a t' e => ?_, fun g t' e => ?_⟩
    · obtain ⟨m2, y1, y2, y3⟩ := k1 a t' e
      exact ⟨m2, by rw [x1, bind_s, hG]; exact y1, x2.trans y2, y3⟩
    · obtain ⟨m2, y1, y2, y3⟩ := k2 g t' e
      exact ⟨m2, by rw [x1, bind_s, hG]; exact y1, x2.trans y2, y3⟩
theorem pb_assoc {α β γ : Type} (x : PR α) (f : α → Nat → PR β) (g : β → Nat → PR γ) : pb (pb x f) g = pb x fun a t => pb (f a t) g := by
  cases x with
  | error e => rfl
  | ok z => rfl
theorem cRes.mono {α : Type} {R : PR α} {X : Option (Bool × Mem)} {m : Mem} {Q Q' : α → Nat → Mem → Prop} (h : cRes R X m Q) (k : ∀ a t' m', R = .ok (a, t') → Q a t' m' → Q' a t' m') : cRes R X m Q' :=
  ⟨fun a t' e => by obtain ⟨m', x1, x2, x3⟩ := h.1 a t' e; exact ⟨m', x1, x2, k a t' m' e x3⟩, h.2⟩
theorem cRes.pre {α : Type} {R : PR α} {X : Option (Bool × Mem)} {m0 m : Mem} {Q : α → Nat → Mem → Prop} (f : Fr WE m0 m) (h : cRes R X m Q) : cRes R X m0 Q :=
  ⟨fun a t' e => by obtain ⟨m', x1, x2, x3⟩ := h.1 a t' e; exact ⟨m', x1, f.trans x2, x3⟩, fun g t' e => by obtain ⟨m', x1, x2, x3⟩ := h.2 g t' e; exact ⟨m', x1, f.trans x2, x3⟩⟩
theorem cPS.on {K V : Nat → Nat} {N : Nat → List Nat} {P : Nat → Nat} {m : Mem} {t p : Nat} (h : cPS K V N P m t p) (lt : t < 400) (k2 : 2 ≤ K t) : cPS K V N P (wI m 3 3 (nI (t + 1))) (t + 1) p := by
  obtain ⟨h1, h2, h3, h4, h5, h6⟩ := h
  exact ⟨h1.fr (Sm.wI (by omega)), by rw [wI_i, if_pos ⟨rfl, rfl⟩], by omega, fun j hj => by
    rcases (show j < t ∨ j = t by omega) with q | q
    · exact h4 j q
    · rw [q]; exact k2, by rw [wI_i, if_neg (by omega)]; exact h5, by omega⟩
/-- a token taken -/
theorem c_tkR {K V : Nat → Nat} {N : Nat → List Nat} {P : Nat → Nat} {m : Mem} {t p k : Nat} (hK : ∀ t, K t < 34) (hk : 2 ≤ k ∧ k < 34) (h : cPS K V N P m t p) : cRes (tkP K k t) (fX4_take (nI k) m) m (fun _ t' m' => t' = t + 1 ∧ t < 400 ∧ m' = wI m 3 3 (nI (t + 1)) ∧ cPS K V N P m' (t + 1) p) := by
  obtain ⟨h1, h2, h3, h4, h5, h6⟩ := h
  have tk := c_take (K := K) (k := k) h3 h2 (h1 t h3 h4).1 (by have := hK t; omega) (by omega)
  refine ⟨fun u t' e => ?_, fun f t' e => ?_⟩
  · have e2 := tk.1 u t' e
    obtain ⟨a, b, rfl⟩ := tk_ok e
    exact ⟨_, e2, wI3 (Or.inr rfl), rfl, b, rfl, cPS.on ⟨h1, h2, h3, h4, h5, h6⟩ b (by omega)⟩
  · have e2 := tk.2 f t' e
    obtain ⟨rfl, _⟩ := tk_er e
    exact ⟨_, e2, wI3 (Or.inl rfl), by rw [wI_i, if_pos ⟨rfl, rfl⟩], by rw [wI_i, if_neg (by omega)]; exact h2⟩
abbrev lowS (p : Nat) (m m' : Mem) : Prop := ∀ x, x < p → m'.1 222 x = m.1 222 x ∧ m'.1 223 x = m.1 223 x
theorem lowS.trans {p : Nat} {a b c : Mem} (h : lowS p a b) (k : lowS p b c) : lowS p a c := fun x hx => ⟨(k x hx).1.trans (h x hx).1, (k x hx).2.trans (h x hx).2⟩
/-- a term read -/
theorem c_exR {K V : Nat → Nat} {N : Nat → List Nat} {P : Nat → Nat} {m : Mem} {t p : Nat} (hK : ∀ t, K t < 34) (hV : ∀ t, V t < 2 ^ 31) (h : cPS K V N P m t p) : cRes (expP K V 6 t) (fX4_readSum 221 0 m) m (fun c t' m' => cPS K V N P m' t' (p + c.length) ∧ cCode m' 221 p c ∧ lowS p m m' ∧ okE c ∧ t < t') := by
  have hK2 : ∀ t, K t < 2 ^ 31 := fun t => by have := hK t; omega
  obtain ⟨o1, o2⟩ := c_readSum (N := N) (P := P) hK2 hV m t p h
  obtain ⟨h1, h2, h3, h4, h5, h6⟩ := h
  refine ⟨fun c t' e => ?_, o2⟩
  obtain ⟨m', x1, x2, x3, x4, x5, x6⟩ := o1 c t' e
  obtain ⟨g1, g2, g3, g4, g5⟩ := (gd_exp (K := K) (V := V) 6 (by omega) t h3).1 c t' e
  refine ⟨m', x1, x2, ⟨h1.fr (WE_sm x2), x3, g2, fun j hj => ?_, x4, by omega⟩, x5, x6, g5 0 (by omega), g1⟩
  rcases (show j < t ∨ t ≤ j by omega) with q | q
  · exact h4 j q
  · exact g4 j q hj
/-- a step added behind a token that made none -/
theorem c_adR {K V : Nat → Nat} {N : Nat → List Nat} {P : Nat → Nat} {m : Mem} {t p : Nat} (a v : Int32) (h : cPS K V N P m t p) (hp : p < 8 + t) (h8 : p < 408) : ∃ m', fX2_add 221 a v m = some (nI p, m') ∧ Fr WE m m' ∧ cPS K V N P m' t (p + 1) ∧ m'.1 222 p = a ∧ m'.1 223 p = v ∧ (∀ x, x ≠ p → m'.1 222 x = m.1 222 x ∧ m'.1 223 x = m.1 223 x) := by
  obtain ⟨h1, h2, h3, h4, h5, h6⟩ := h
  obtain ⟨m', a1, a2, a3, a4, a5⟩ := c_ladd a v h8 h5
  have fA : Fr (WX2_add 221) m m' := frX2_add _ _ _ _ _ a1
  exact ⟨m', a1, ladd_fr a1, ⟨h1.fr (WE_sm (ladd_fr a1)), by rw [(fA 3 3 (by simp [WX2_add, inW])).1]; exact h2, h3, h4, a2, by omega⟩, a3, a4, a5⟩
abbrev cLQ (K V : Nat → Nat) (N : Nat → List Nat) (P : Nat → Nat) (m0 : Mem) (p : Nat) : LawT → Nat → Mem → Prop := fun l t' m' => ∃ e, cPS K V N P m' t' e ∧ p < e ∧ cLaw m' 221 l.2 p l.1 e ∧ lowS p m0 m' ∧ okL l
theorem c_last {K V : Nat → Nat} {N : Nat → List Nat} {P : Nat → Nat} {m : Mem} {t p : Nat} (hK : ∀ t, K t < 34) (hV : ∀ t, V t < 2 ^ 31) (h : cPS K V N P m t p) : cRes (lasP K V t) (fX4_readLaw_j148 221 m) m (cLQ K V N P m p) := by
  unfold lasP fX4_readLaw_j148
  refine cBind (c_exR hK hV h) (fun _ => if_neg Bool.false_ne_true) (fun _ => if_pos rfl) ?_
  rintro c t1 m1 - f1 ⟨s1, k1, l1, ok1, tt1⟩
  refine cBind (c_tkR (k := 4) hK (by omega) s1) (fun _ => if_neg Bool.false_ne_true) (fun _ => if_pos rfl) ?_
  rintro u t2 m2 - f2 ⟨rfl, lt2, rfl, s2⟩
  obtain ⟨m3, a1, a2, a3, a4, a5, a6⟩ := c_adR 0 0 s2 (by have := s1.2.2.2.2.2; omega) (by have := s1.2.2.2.2.2; omega)
  rw [a1, bind_s]
  refine ⟨fun l t' e => ?_, fun f t' e => (by cases e)⟩
  cases e
  have lo : ∀ x, x < p + c.length → m3.1 222 x = m1.1 222 x ∧ m3.1 223 x = m1.1 223 x := by
    intro x hx
    have := a6 x (by omega)
    rw [wI_i, if_neg (by omega), wI_i, if_neg (by omega)] at this
    exact this
  refine ⟨m3, rfl, a2, p + c.length + 1, a3, by omega, ⟨cCode_ext k1 (fun x _ hx => lo x hx), a4, (by show p + c.length < p + c.length + 1; omega)⟩, ?_, ?_⟩
  · intro x hx
    have y1 := lo x (by omega)
    have y2 := l1 x hx
    exact ⟨y1.1.trans y2.1, y1.2.trans y2.2⟩
  · exact ⟨fun b hb => (by simp at hb), ok1⟩
theorem cLaw_ext {m m' : Mem} {las : Cd} {e : Nat} : ∀ {r : List (Cd × Cd × Cd)} {p : Nat}, cLaw m 221 las p r e → (∀ x, p ≤ x → x < e → m'.1 222 x = m.1 222 x ∧ m'.1 223 x = m.1 223 x) → cLaw m' 221 las p r e
  | [], p, h, k => ⟨cCode_ext h.1 (fun x x1 x2 => k x x1 (by have := h.2.2; omega)), by rw [show (221 : Nat) + 1 = 222 from rfl, (k _ (by omega) h.2.2).1]; exact h.2.1, h.2.2⟩
  | b :: r, p, h, k => by
    have lt := cLaw_lt h.2.2.2.2.2
    refine ⟨cCode_ext h.1 (fun x x1 x2 => k x x1 (by omega)), ?_, ?_, cCode_ext h.2.2.2.1 (fun x x1 x2 => k x (by omega) (by omega)), ?_, cLaw_ext h.2.2.2.2.2 (fun x x1 x2 => k x (by omega) x2)⟩
    · rw [show (221 : Nat) + 1 = 222 from rfl, (k _ (by omega) (by omega)).1]; exact h.2.1
    · rw [show (221 : Nat) + 2 = 223 from rfl, (k _ (by omega) (by omega)).2]; exact h.2.2.1
    · rw [show (221 : Nat) + 1 = 222 from rfl, (k _ (by omega) (by omega)).1]; exact h.2.2.2.2.1
theorem c_law28 {K V : Nat → Nat} {N : Nat → List Nat} {P : Nat → Nat} (hK : ∀ t, K t < 34) (hV : ∀ t, V t < 2 ^ 31) : ∀ r i n m t p, i + r = 4 → r < n → cPS K V N P m t p → cRes (lawL K V r t) (fX4_readLaw_28 221 (fun μ16 => fX4_readLaw_j148 221 μ16) n (nI i) m) m (cLQ K V N P m p)
  | r, i, 0, m, t, p, _, h, _ => by omega
  | 0, i, n + 1, m, t, p, hi, _, h => by
    have i4 : i = 4 := by omega
    subst i4
    rw [lawL, fX4_readLaw_28, if_neg (show ¬ (4 : Int32) < nI 4 by decide), c_kind h, bind_s]
    by_cases k : K t = 22
    · rw [if_pos k, if_pos (by rw [k]; rfl), if_pos (by rfl)]
      unfold fX4_fail
      rw [nm_ap, bind_s]
      refine ⟨fun l t' e => (by cases e), fun f t' e => ?_⟩
      cases e
      exact ⟨_, rfl, wI3 (Or.inl rfl), by rw [wI_i, if_pos ⟨rfl, rfl⟩]; rfl, by rw [wI_i, if_neg (by omega)]; exact h.2.1⟩
    · rw [if_neg k, if_neg (show ¬ nI (K t) = 22 from fun q => k ((nI_eq (b := 22) (by have := hK t; omega) (by omega)).1 q))]
      exact c_last hK hV h
  | r + 1, i, n + 1, m, t, p, hi, hn, h => by
    rw [lawL, fX4_readLaw_28, if_neg (show ¬ (4 : Int32) < nI i by rw [L_4]; exact nI_nlt (by omega) (by omega)), c_kind h, bind_s]
    by_cases k : K t = 22
    · rw [if_pos k, if_pos (by rw [k]; rfl), if_neg (show ¬ nI i = 4 from fun q => by have := (nI_eq (b := 4) (by omega) (by omega)).1 q; omega)]
      have asc : (pb (brP K V t) fun b t1 => pb (lawL K V r t1) fun l t2 => (.ok ((b :: l.1, l.2), t2) : PR LawT)) = pb (tkP K 22 t) fun _ t1 => pb (expP K V 6 t1) fun c1 t2 => pb (tkP K 10 t2) fun _ t3 => pb (expP K V 6 t3) fun c2 t4 => pb (tkP K 23 t4) fun _ t5 => pb (expP K V 6 t5) fun c3 t6 => pb (tkP K 24 t6) fun _ t7 => pb (lawL K V r t7) fun l t8 => .ok (((c1, c2, c3) :: l.1, l.2), t8) := by
        unfold brP
        simp only [pb_assoc]
        rfl
      rw [asc]
      refine cBind (c_tkR (k := 22) hK (by omega) h) (fun _ => if_neg Bool.false_ne_true) (fun _ => if_pos rfl) ?_
      rintro u1 t1 m1 - f1 ⟨rfl, lt1, rfl, s1⟩
      refine cBind (c_exR hK hV s1) (fun _ => if_neg Bool.false_ne_true) (fun _ => if_pos rfl) ?_
      rintro c1 t2 m2 - f2 ⟨s2, k2, l2, ok2, tt2⟩
      refine cBind (c_tkR (k := 10) hK (by omega) s2) (fun _ => if_neg Bool.false_ne_true) (fun _ => if_pos rfl) ?_
      rintro u3 t3 m3 - f3 ⟨rfl, lt3, rfl, s3⟩
      refine cBind (c_exR hK hV s3) (fun _ => if_neg Bool.false_ne_true) (fun _ => if_pos rfl) ?_
      rintro c2 t4 m4 - f4 ⟨s4, k4, l4, ok4, tt4⟩
      refine cBind (c_tkR (k := 23) hK (by omega) s4) (fun _ => if_neg Bool.false_ne_true) (fun _ => if_pos rfl) ?_
      rintro u5 t5 m5 - f5 ⟨rfl, lt5, rfl, s5⟩
      have bound := s4.2.2.2.2.2
      have b1 := s1.2.2.2.2.2
      have b0 := h.2.2.2.2.2
      obtain ⟨m6, a1, a2, a3, a4, a5, a6⟩ := c_adR 10 0 s5 (by omega) (by omega)
      rw [a1, bind_s]
      refine cRes.pre a2 ?_
      refine cBind (c_exR hK hV a3) (fun _ => if_neg Bool.false_ne_true) (fun _ => if_pos rfl) ?_
      rintro c3 t7 m7 - f7 ⟨s7, k7, l7, ok7, tt7⟩
      refine cBind (c_tkR (k := 24) hK (by omega) s7) (fun _ => if_neg Bool.false_ne_true) (fun _ => if_pos rfl) ?_
      rintro u8 t8 m8 - f8 ⟨rfl, lt8, rfl, s8⟩
      have b7 := s7.2.2.2.2.2
      obtain ⟨m9, d1, d2, d3, d4, d5, d6⟩ := c_adR 0 0 s8 (by omega) (by omega)
      rw [d1, bind_s]
      have q408 : p + c1.length + c2.length < 408 := by omega
      have aim : fX2_aimBehind 221 (nI (p + c1.length + c2.length)) m9 = some (wI m9 223 (p + c1.length + c2.length) (nI (p + c1.length + c2.length + 1 + c3.length + 1))) := by
        unfold fX2_aimBehind
        rw [if_pos (inbN q408 (by omega)), nI_clamp (by omega), show m9.1 221 3 = _ from d3.2.2.2.2.1, nm_ap]
      rw [aim, bind_s, nI_1]
      have sm9 : cPS K V N P (wI m9 223 (p + c1.length + c2.length) (nI (p + c1.length + c2.length + 1 + c3.length + 1))) (t7 + 1) (p + c1.length + c2.length + 1 + c3.length + 1) := by
        obtain ⟨g1, g2, g3, g4, g5, g6⟩ := d3
        exact ⟨g1.fr (Sm.wI (by omega)), by rw [wI_i, if_neg (by omega)]; exact g2, g3, g4, by rw [wI_i, if_neg (by omega)]; exact g5, g6⟩
      have fr9 : Fr WE (wI m7 3 3 (nI (t7 + 1))) (wI m9 223 (p + c1.length + c2.length) (nI (p + c1.length + c2.length + 1 + c3.length + 1))) := d2.wI (by simp [WE, WX4_readSum, inW])
      refine cRes.pre fr9 ?_
      have ih := c_law28 hK hV r (i + 1) n _ (t7 + 1) _ (by omega) (by omega) sm9
      -- what was laid stays
      refine ⟨fun l t' e => ?_, fun g t' e => ?_⟩
      · obtain ⟨l0, t0, e1, e2⟩ := pb_ok e
        cases e2
        obtain ⟨m', x1, x2, e9, y1, y2, y3, y4, y5⟩ := ih.1 l0 t' e1
        have w3 : ∀ (mm : Mem) (tt x : Nat), (wI mm 3 3 (nI tt)).1 222 x = mm.1 222 x ∧ (wI mm 3 3 (nI tt)).1 223 x = mm.1 223 x := fun mm tt x => ⟨by rw [wI_i, if_neg (by omega)], by rw [wI_i, if_neg (by omega)]⟩
        have st9 : ∀ x, x < p + c1.length + c2.length + 1 + c3.length + 1 → m'.1 222 x = m9.1 222 x ∧ (x ≠ p + c1.length + c2.length → m'.1 223 x = m9.1 223 x) := by
          intro x hx
          have := y4 x hx
          rw [wI_i, if_neg (by omega)] at this
          refine ⟨this.1, fun hne => ?_⟩
          rw [this.2, wI_i, if_neg (by omega)]
        have st7 : ∀ x, x < p + c1.length + c2.length + 1 + c3.length → m'.1 222 x = m7.1 222 x ∧ (x ≠ p + c1.length + c2.length → m'.1 223 x = m7.1 223 x) := by
          intro x hx
          have u1 := st9 x (by omega)
          have u2 := d6 x (by omega)
          have u3 := w3 m7 (t7 + 1) x
          exact ⟨u1.1.trans (u2.1.trans u3.1), fun hne => (u1.2 hne).trans (u2.2.trans u3.2)⟩
        have st6 : ∀ x, x < p + c1.length + c2.length + 1 → m'.1 222 x = m6.1 222 x ∧ (x ≠ p + c1.length + c2.length → m'.1 223 x = m6.1 223 x) := by
          intro x hx
          have u1 := st7 x (by omega)
          have u2 := l7 x hx
          exact ⟨u1.1.trans u2.1, fun hne => (u1.2 hne).trans u2.2⟩
        have st4 : ∀ x, x < p + c1.length + c2.length → m'.1 222 x = m4.1 222 x ∧ m'.1 223 x = m4.1 223 x := by
          intro x hx
          have u1 := st6 x (by omega)
          have u2 := a6 x (by omega)
          have u3 := w3 m4 (t4 + 1) x
          exact ⟨u1.1.trans (u2.1.trans u3.1), (u1.2 (by omega)).trans (u2.2.trans u3.2)⟩
        have st2 : ∀ x, x < p + c1.length → m'.1 222 x = m2.1 222 x ∧ m'.1 223 x = m2.1 223 x := by
          intro x hx
          have u1 := st4 x (by omega)
          have u2 := l4 x hx
          have u3 := w3 m2 (t2 + 1) x
          exact ⟨u1.1.trans (u2.1.trans u3.1), u1.2.trans (u2.2.trans u3.2)⟩
        have st0 : ∀ x, x < p → m'.1 222 x = m.1 222 x ∧ m'.1 223 x = m.1 223 x := by
          intro x hx
          have u1 := st2 x (by omega)
          have u2 := l2 x hx
          have u3 := w3 m (t + 1) x
          exact ⟨u1.1.trans (u2.1.trans u3.1), u1.2.trans (u2.2.trans u3.2)⟩
        refine ⟨m', (by rw [x1]), x2, e9, y1, by omega, ?_, st0, ?_⟩
        · have len : (c1 ++ c2).length = c1.length + c2.length := List.length_append
          refine ⟨cCode_cat (cCode_ext k2 (fun x _ hx => st2 x hx)) (cCode_ext k4 (fun x _ hx => st4 x hx)), ?_, ?_, ?_, ?_, ?_⟩
          · show m'.1 222 (p + (c1 ++ c2).length) = 10
            rw [len, ← Nat.add_assoc, (st6 _ (by omega)).1]; exact a4
          · show m'.1 223 (p + (c1 ++ c2).length) = _
            rw [len, ← Nat.add_assoc, (y4 _ (by omega)).2, wI_i, if_pos ⟨rfl, rfl⟩]
          · show cCode m' 221 (p + (c1 ++ c2).length + 1) c3
            rw [len, ← Nat.add_assoc]
            exact cCode_ext k7 (fun x x1 hx => ⟨(st7 x hx).1, (st7 x hx).2 (by omega)⟩)
          · show m'.1 222 (p + (c1 ++ c2).length + 1 + c3.length) = 0
            rw [len, ← Nat.add_assoc, (st9 _ (by omega)).1]; exact d4
          · show cLaw m' 221 l0.2 (p + (c1 ++ c2).length + 1 + c3.length + 1) l0.1 e9
            rw [len, ← Nat.add_assoc]; exact y3
        · refine ⟨fun b hb => ?_, y5.2⟩
          rcases List.mem_cons.1 hb with z | z
          · rw [z]; exact ⟨ok2, ok4, ok7⟩
          · exact y5.1 b z
      · rcases pb_er e with z | ⟨l0, t0, e1, e2⟩
        · exact ih.2 g t' z
        · cases e2
    · rw [if_neg k, if_neg (show ¬ nI (K t) = 22 from fun q => k ((nI_eq (b := 22) (by have := hK t; omega) (by omega)).1 q))]
      exact c_last hK hV h
