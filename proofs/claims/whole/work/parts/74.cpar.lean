/-! ===== the component reads a term ===== -/
abbrev WE : CellL := WX4_readSum 221
/-- the tokens that the component has cut -/
def cTK (K V : Nat → Nat) (N : Nat → List Nat) (P : Nat → Nat) (μ : Mem) : Prop := ∀ t, t ≤ 400 → (∀ j, j < t → 2 ≤ K j) → μ.1 5 t = nI (K t) ∧ μ.1 6 t = nI (P t) ∧ (K t = 3 → μ.2 7 t = lN (V t)) ∧ (K t = 2 → μ.2 7 t = lN (pkw 32 (N t)))
theorem cTK.fr {K V : Nat → Nat} {N : Nat → List Nat} {P : Nat → Nat} {μ m : Mem} (h : cTK K V N P μ) (f : Sm 5 7 μ m) : cTK K V N P m := by
  intro t ht hk
  rw [f.i 5 t (by omega) (by omega), f.i 6 t (by omega) (by omega), f.l 7 t (by omega) (by omega)]
  exact h t ht hk
theorem WE_sm {μ m : Mem} (f : Fr WE μ m) : Sm 5 7 μ m := smF 5 7 f (by decide)
abbrev cPS (K V : Nat → Nat) (N : Nat → List Nat) (P : Nat → Nat) (m : Mem) (t p : Nat) : Prop := cTK K V N P m ∧ m.1 3 3 = nI t ∧ t ≤ 400 ∧ (∀ j, j < t → 2 ≤ K j) ∧ m.1 221 3 = nI p ∧ p ≤ 8 + t
/-- the outcome of a reader of the component, as the grammar has it -/
def cOut (R : PR Cd) (X : Option (Bool × Mem)) (m : Mem) (p : Nat) : Prop :=
  (∀ c t', R = .ok (c, t') → ∃ m', X = some (true, m') ∧ Fr WE m m' ∧ m'.1 3 3 = nI t' ∧ m'.1 221 3 = nI (p + c.length) ∧ cCode m' 221 p c ∧ ∀ x, x < p → m'.1 222 x = m.1 222 x ∧ m'.1 223 x = m.1 223 x)
  ∧ (∀ f t', R = .error (f, t') → ∃ m', X = some (false, m') ∧ Fr WE m m' ∧ m'.1 3 0 = nI f ∧ m'.1 3 3 = nI t')
def cImp (K V : Nat → Nat) (N : Nat → List Nat) (P : Nat → Nat) (U : Nat → PR Cd) (F : Mem → Option (Bool × Mem)) : Prop := ∀ m t p, cPS K V N P m t p → cOut (U t) (F m) m p
theorem c_kind {K V : Nat → Nat} {N : Nat → List Nat} {P : Nat → Nat} {m : Mem} {t p : Nat} (h : cPS K V N P m t p) : fX4_kind m = some (nI (K t)) := by
  obtain ⟨h1, h2, h3, h4, _⟩ := h
  unfold fX4_kind
  rw [h2, if_pos (inbN (by omega) (by omega)), nI_clamp (by omega), (h1 t h3 h4).1]
theorem c_take {K : Nat → Nat} {m : Mem} {t k : Nat} (ht : t ≤ 400) (h2 : m.1 3 3 = nI t) (h5 : m.1 5 t = nI (K t)) (hK : K t < 2 ^ 31) (hk : k < 2 ^ 31) : (∀ u t', tkP K k t = .ok (u, t') → fX4_take (nI k) m = some (true, wI m 3 3 (nI t'))) ∧ (∀ f t', tkP K k t = .error (f, t') → fX4_take (nI k) m = some (false, wI m 3 0 (nI f))) := by
  have hF : fX4_take (nI k) m = if K t = k then (if t < 400 then some (true, wI m 3 3 (nI (t + 1))) else some (false, wI m 3 0 (nI 2))) else some (false, wI m 3 0 (nI 1)) := by
    unfold fX4_take fX4_take_j21
    rw [h2, if_pos (inbN (by omega) (by omega)), nI_clamp (by omega), h5]
    by_cases c : K t = k
    · rw [if_pos (show nI (K t) = nI k by rw [c]), if_neg (show ¬ (1 : Int32) = 0 by decide), if_pos c]
      by_cases d : t < 400
      · rw [if_pos d, if_pos (c_lt L_400 d (by omega)), nm_ap, nI_1]
      · rw [if_neg d, if_neg (c_nlt L_400 (by omega) (by omega)), if_neg (show ¬ (1 : Int32) = 0 by decide), nm_ap]; rfl
    · rw [if_neg c, if_neg (fun q => c ((nI_eq hK hk).1 q)), if_pos rfl, if_pos rfl, nm_ap]; rfl
  rw [hF]
  constructor
  · intro u t' e
    obtain ⟨a, b, rfl⟩ := tk_ok e
    rw [if_pos a, if_pos b]
  · intro f t' e
    unfold tkP at e
    by_cases c : K t = k
    · rw [if_pos c] at e ⊢
      by_cases d : t < 400
      · rw [if_pos d] at e; cases e
      · rw [if_neg d] at e ⊢; cases e; rfl
    · rw [if_neg c] at e ⊢; cases e; rfl
theorem c_ladd {m : Mem} {p : Nat} (a v : Int32) (hp : p < 408) (h : m.1 221 3 = nI p) : ∃ m', fX2_add 221 a v m = some (nI p, m') ∧ m'.1 221 3 = nI (p + 1) ∧ m'.1 222 p = a ∧ m'.1 223 p = v ∧ (∀ x, x ≠ p → m'.1 222 x = m.1 222 x ∧ m'.1 223 x = m.1 223 x) := by
  have bp : inb (nI p) 408 := inbN (by omega) (by omega)
  have cp : (nI p).toNatClampNeg = p := nI_clamp (by omega)
  have e1 : (wI m 222 p a).1 221 3 = nI p := by rw [wI_i, if_neg (by omega)]; exact h
  have e2 : (wI (wI m 222 p a) 223 p v).1 221 3 = nI p := by rw [wI_i, if_neg (by omega)]; exact e1
  have e3 : (wI (wI (wI m 222 p a) 223 p v) 221 3 (nI (p + 1))).1 221 3 = nI (p + 1) := by rw [wI_i, if_pos ⟨rfl, rfl⟩]
  unfold fX2_add
  rw [h, if_pos (c_lt L_408 hp (by omega))]
  simp only [if_pos bp, cp, nm_ap, show 221 + 1 = 222 from rfl, show 221 + 2 = 223 from rfl, e1, e2, nI_1, e3, nI_pred]
  refine ⟨_, rfl, e3, ?_, ?_, ?_⟩
  · rw [wI_i, if_neg (by omega), wI_i, if_neg (by omega), wI_i, if_pos ⟨rfl, rfl⟩]
  · rw [wI_i, if_neg (by omega), wI_i, if_pos ⟨rfl, rfl⟩]
  · intro x hx
    refine ⟨?_, ?_⟩
    · rw [wI_i, if_neg (by omega), wI_i, if_neg (by omega), wI_i, if_neg (by omega)]
    · rw [wI_i, if_neg (by omega), wI_i, if_neg (by omega), wI_i, if_neg (by omega)]
theorem ladd_fr {a v : Int32} {m : Mem} {q : Int32 × Mem} (h : fX2_add 221 a v m = some q) : Fr WE m q.2 := by
  have f : Fr (WX2_add 221) m q.2 := frX2_add _ _ _ _ _ h
  exact f.mono (by intro x y; simp [WX2_add, WE, WX4_readSum, inW]; omega)
theorem cCode_ext {m m' : Mem} : ∀ {c : Cd} {p : Nat}, cCode m 221 p c → (∀ x, p ≤ x → x < p + c.length → m'.1 222 x = m.1 222 x ∧ m'.1 223 x = m.1 223 x) → cCode m' 221 p c
  | [], _, _, _ => trivial
  | x :: c, p, h, k => by
    simp only [List.length_cons] at k
    have k0 := k p (by omega) (by omega)
    refine ⟨?_, fun hx => ?_, cCode_ext h.2.2 (fun y y1 y2 => k y (by omega) (by omega))⟩
    · rw [show (221 : Nat) + 1 = 222 from rfl, k0.1]; exact h.1
    · rw [show (221 : Nat) + 2 = 223 from rfl, k0.2]; exact h.2.1 hx
theorem cCode_cat {m : Mem} : ∀ {u v : Cd} {p : Nat}, cCode m 221 p u → cCode m 221 (p + u.length) v → cCode m 221 p (u ++ v)
  | [], v, p, _, h => h
  | x :: u, v, p, h, k => by
    refine ⟨h.1, h.2.1, cCode_cat h.2.2 ?_⟩
    rw [List.length_cons, show p + (u.length + 1) = p + 1 + u.length by omega] at k
    exact k
theorem wI3 {m : Mem} {j : Nat} {v : Int32} (hj : j = 0 ∨ j = 3) : Fr WE m (wI m 3 j v) := Fr.rfl.wI (by rcases hj with e | e <;> subst e <;> simp [WE, WX4_readSum, inW])
theorem c_unit {K V : Nat → Nat} {N : Nat → List Nat} {P : Nat → Nat} {inner : Option (Nat → PR Cd)} {rec : Nat → Int32 → Mem → Option (Bool × Mem)} {D d : Nat} (hK : ∀ t, K t < 2 ^ 31) (hV : ∀ t, V t < 2 ^ 31) (hd : d ≤ 6) (hi : inner = none ↔ d = 6) (hs : ∀ s, inner = some s → cImp K V N P s (rec 221 (nI (d + 1))) ∧ gdP K D s) : cImp K V N P (uniP K V inner) (fX4_readUnit_o rec 221 (nI d)) := by
  intro m t p h
  have hh := h
  obtain ⟨h1, h2, h3, h4, h5, h6⟩ := h
  have t5 := (h1 t h3 h4).1
  unfold fX4_readUnit_o
  rw [c_kind hh, bind_s]
  unfold uniP
  by_cases c1 : K t = 11
  · rw [if_pos c1, if_pos (by rw [c1]; rfl)]
    cases inner with
    | none =>
      have : d = 6 := hi.1 rfl
      subst this
      rw [if_neg (by decide)]
      unfold fX4_fail
      rw [nm_ap, bind_s]
      refine ⟨fun c t' e => (by cases e), fun f t' e => ?_⟩
      cases e
      exact ⟨_, rfl, wI3 (Or.inl rfl), by rw [wI_i, if_pos ⟨rfl, rfl⟩]; rfl, by rw [wI_i, if_neg (by omega)]; exact h2⟩
    | some s =>
      obtain ⟨cs, gs⟩ := hs s rfl
      have d6 : d < 6 := by
        rcases Nat.lt_or_ge d 6 with q | q
        · exact q
        · have := hi.2 (by omega); cases this
      rw [if_pos (c_lt L_6 d6 (by omega)), nI_1]
      have tk := c_take (K := K) (k := 11) h3 h2 t5 (hK t) (by omega)
      have er1 : ∀ f t', tkP K 11 t = .error (f, t') → ∃ m', ((fX4_take 11 m).bind fun q7 => if q7.1 = true then (rec 221 (nI (d + 1)) q7.2).bind fun q8 => if q8.1 = true then (fX4_take 12 q8.2).bind fun q9 => if q9.1 = true then some (true, q9.2) else some (false, q9.2) else some (false, q8.2) else some (false, q7.2)) = some (false, m') ∧ Fr WE m m' ∧ m'.1 3 0 = nI f ∧ m'.1 3 3 = nI t' := by
        intro f t' e
        have e2 := tk.2 f t' e
        obtain ⟨rfl, _⟩ := tk_er e
        refine ⟨wI m 3 0 (nI f), ?_, wI3 (Or.inl rfl), by rw [wI_i, if_pos ⟨rfl, rfl⟩], by rw [wI_i, if_neg (by omega)]; exact h2⟩
        rw [show fX4_take 11 m = _ from e2, bind_s, if_neg Bool.false_ne_true]
      cases ek : tkP K 11 t with
      | error q =>
        refine ⟨fun c t' e => (by cases e), fun f t' e => ?_⟩
        have : q = (f, t') := by cases e; rfl
        subst this
        exact er1 f t' ek
      | ok q =>
        obtain ⟨u, t1⟩ := q
        obtain ⟨_, lt, rfl⟩ := tk_ok ek
        have e2 := tk.1 u _ ek
        rw [show fX4_take 11 m = _ from e2, bind_s, if_pos rfl]
        have ps1 : cPS K V N P (wI m 3 3 (nI (t + 1))) (t + 1) p := ⟨h1.fr (Sm.wI (by omega)), by rw [wI_i, if_pos ⟨rfl, rfl⟩], by omega, fun j hj => by
          rcases (show j < t ∨ j = t by omega) with q | q
          · exact h4 j q
          · rw [q]; omega, by rw [wI_i, if_neg (by omega)]; exact h5, by omega⟩
        obtain ⟨o1, o2⟩ := cs _ _ _ ps1
        show cOut (pb (s (t + 1)) fun c t2 => pb (tkP K 12 t2) fun _ t3 => .ok (c, t3)) _ m p
        cases es : s (t + 1) with
        | error q =>
          obtain ⟨f0, t0⟩ := q
          obtain ⟨m', x1, x2, x3, x4⟩ := o2 f0 t0 es
          refine ⟨fun c t' e => (by cases e), fun f t' e => ?_⟩
          cases e
          refine ⟨m', ?_, (wI3 (Or.inr rfl)).trans x2, x3, x4⟩
          rw [x1, bind_s, if_neg Bool.false_ne_true]
        | ok q =>
          obtain ⟨c0, t0⟩ := q
          obtain ⟨m', x1, x2, x3, x4, x5, x6⟩ := o1 c0 t0 es
          obtain ⟨g1, g2, g3, g4, g5⟩ := (gs (t + 1) (by omega)).1 c0 t0 es
          have k0 : ∀ j, j < t0 → 2 ≤ K j := by
            intro j hj
            rcases (show j < t ∨ j = t ∨ t + 1 ≤ j by omega) with q | q | q
            · exact h4 j q
            · rw [q]; omega
            · exact g4 j q hj
          have tT : cTK K V N P m' := ps1.1.fr (WE_sm x2)
          have tk2 := c_take (K := K) (k := 12) g2 x3 (tT t0 g2 k0).1 (hK t0) (by omega)
          rw [x1, bind_s, if_pos rfl]
          show cOut (pb (tkP K 12 t0) fun _ t3 => .ok (c0, t3)) _ m p
          cases e12 : tkP K 12 t0 with
          | error q =>
            obtain ⟨f0, t00⟩ := q
            obtain ⟨rfl, _⟩ := tk_er e12
            refine ⟨fun c t' e => (by cases e), fun f t' e => ?_⟩
            cases e
            refine ⟨wI m' 3 0 (nI f0), ?_, ((wI3 (Or.inr rfl)).trans x2).trans (wI3 (Or.inl rfl)), by rw [wI_i, if_pos ⟨rfl, rfl⟩], by rw [wI_i, if_neg (by omega)]; exact x3⟩
            rw [show fX4_take 12 m' = _ from tk2.2 _ _ e12, bind_s, if_neg Bool.false_ne_true]
          | ok q =>
            obtain ⟨u2, t2⟩ := q
            refine ⟨fun c t' e => ?_, fun f t' e => (by cases e)⟩
            cases e
            refine ⟨wI m' 3 3 (nI t2), ?_, ((wI3 (Or.inr rfl)).trans x2).trans (wI3 (Or.inr rfl)), by rw [wI_i, if_pos ⟨rfl, rfl⟩], by rw [wI_i, if_neg (by omega)]; exact x4, cCode_ext x5 (fun x _ _ => ⟨by rw [wI_i, if_neg (by omega)], by rw [wI_i, if_neg (by omega)]⟩), ?_⟩
            · rw [show fX4_take 12 m' = _ from tk2.1 _ _ e12, bind_s, if_pos rfl]
            · intro x hx
              have := x6 x hx
              rw [wI_i, if_neg (by omega), wI_i, if_neg (by omega), this.1, this.2, wI_i, if_neg (by omega), wI_i, if_neg (by omega)]
              exact ⟨rfl, rfl⟩
  · rw [if_neg c1, if_neg (show ¬ nI (K t) = 11 from fun q => c1 ((nI_eq (b := 11) (hK t) (by omega)).1 q))]
    by_cases c2 : 25 ≤ K t ∧ K t ≤ 33
    · rw [if_pos c2, if_neg (show ¬ nI (K t) < 25 by rw [L_25]; exact nI_nlt c2.1 (hK t)), if_neg (show ¬ (33 : Int32) < nI (K t) by rw [L_33]; exact nI_nlt c2.2 (by omega)), show nI (K t) - 25 = nI (K t - 25) from pk_sub (b := 25) c2.1]
      have tk := fun m' (e3 : m'.1 3 3 = nI t) (e5 : m'.1 5 t = nI (K t)) => c_take (K := K) (m := m') (k := K t) h3 e3 e5 (hK t) (hK t)
      by_cases p8 : p < 408
      · obtain ⟨m1, a1, a2, a3, a4, a5⟩ := c_ladd 13 (nI (K t - 25)) p8 h5
        have fA : Fr (WX2_add 221) m m1 := frX2_add _ _ _ _ _ a1
        have f1 : Fr WE m m1 := ladd_fr a1
        have s3 : m1.1 3 3 = nI t := by rw [(fA 3 3 (by simp [WX2_add, inW])).1]; exact h2
        have s5 : m1.1 5 t = nI (K t) := by rw [(fA 5 t (by simp [WX2_add, inW])).1]; exact t5
        have tk := tk m1 s3 s5
        rw [show fX2_add 221 13 (nI (K t - 25)) m = _ from a1, bind_s]
        cases ek : tkP K (K t) t with
        | error q =>
          obtain ⟨f0, t0⟩ := q
          obtain ⟨rfl, _⟩ := tk_er ek
          refine ⟨fun c t' e => (by cases e), fun f t' e => ?_⟩
          cases e
          refine ⟨wI m1 3 0 (nI f0), ?_, f1.trans (wI3 (Or.inl rfl)), by rw [wI_i, if_pos ⟨rfl, rfl⟩], by rw [wI_i, if_neg (by omega)]; exact s3⟩
          rw [tk.2 _ _ ek, bind_s]
        | ok q =>
          obtain ⟨u, t1⟩ := q
          refine ⟨fun c t' e => ?_, fun f t' e => (by cases e)⟩
          cases e
          refine ⟨wI m1 3 3 (nI t1), ?_, f1.trans (wI3 (Or.inr rfl)), by rw [wI_i, if_pos ⟨rfl, rfl⟩], by rw [wI_i, if_neg (by omega)]; exact a2, ⟨?_, fun _ => ?_, trivial⟩, ?_⟩
          · rw [tk.1 _ _ ek, bind_s]
          · rw [wI_i, if_neg (by omega)]; exact a3
          · rw [wI_i, if_neg (by omega)]; exact a4
          · intro x hx
            have := a5 x (by omega)
            rw [wI_i, if_neg (by omega), wI_i, if_neg (by omega)]
            exact this
      · have t400 : t = 400 := by omega
        have ad : fX2_add 221 13 (nI (K t - 25)) m = some (0, m) := by
          unfold fX2_add
          rw [h5, if_neg (c_nlt L_408 (by omega) (by omega))]
        have ek : tkP K (K t) t = .error (2, t) := by unfold tkP; rw [if_pos rfl, if_neg (by omega)]
        rw [ad, bind_s, (tk m h2 t5).2 _ _ ek, bind_s, ek]
        refine ⟨fun c t' e => (by cases e), fun f t' e => ?_⟩
        cases e
        exact ⟨_, rfl, wI3 (Or.inl rfl), by rw [wI_i, if_pos ⟨rfl, rfl⟩], by rw [wI_i, if_neg (by omega)]; exact h2⟩
    · rw [if_neg c2]
      have j : cOut (pb (tkP K 3 t) fun _ t1 => .ok ([(0, V t)], t1)) (fX4_readUnit_j87 rec 221 m) m p := by
        unfold fX4_readUnit_j87
        have tk := c_take (K := K) (k := 3) h3 h2 t5 (hK t) (by omega)
        cases ek : tkP K 3 t with
        | error q =>
          obtain ⟨f0, t0⟩ := q
          obtain ⟨rfl, _⟩ := tk_er ek
          refine ⟨fun c t' e => (by cases e), fun f t' e => ?_⟩
          cases e
          refine ⟨wI m 3 0 (nI f0), ?_, wI3 (Or.inl rfl), by rw [wI_i, if_pos ⟨rfl, rfl⟩], by rw [wI_i, if_neg (by omega)]; exact h2⟩
          rw [show fX4_take 3 m = _ from tk.2 _ _ ek, bind_s, if_neg Bool.false_ne_true]
        | ok q =>
          obtain ⟨u, t1⟩ := q
          obtain ⟨k3, lt, rfl⟩ := tk_ok ek
          refine ⟨fun c t' e => ?_, fun f t' e => (by cases e)⟩
          cases e
          have v7 := (h1 t h3 h4).2.2.1 k3
          have ib : fX4_intBehind 1 (wI m 3 3 (nI (t + 1))) = some (nI (V t)) := by
            unfold fX4_intBehind
            have e3 : (wI m 3 3 (nI (t + 1))).1 3 3 = nI (t + 1) := by rw [wI_i, if_pos ⟨rfl, rfl⟩]
            rw [e3, if_neg (c_nlt L_1 (by omega) (by omega)), nI_pred, if_pos (inbN (by omega) (by omega)), nI_clamp (by omega), show (wI m 3 3 (nI (t + 1))).2 7 t = lN (V t) from v7, lN_i]
          obtain ⟨m1, a1, a2, a3, a4, a5⟩ := c_ladd (m := wI m 3 3 (nI (t + 1))) (p := p) 3 (nI (V t)) (by omega) (by rw [wI_i, if_neg (by omega)]; exact h5)
          have fA : Fr (WX2_add 221) (wI m 3 3 (nI (t + 1))) m1 := frX2_add _ _ _ _ _ a1
          have f1 : Fr WE (wI m 3 3 (nI (t + 1))) m1 := ladd_fr a1
          refine ⟨m1, ?_, (wI3 (Or.inr rfl)).trans f1, ?_, a2, ⟨a3, fun _ => a4, trivial⟩, ?_⟩
          · rw [show fX4_take 3 m = _ from tk.1 _ _ ek, bind_s, if_pos rfl, ib, bind_s, a1, bind_s]
          · rw [(fA 3 3 (by simp [WX2_add, inW])).1, wI_i, if_pos ⟨rfl, rfl⟩]
          · intro x hx
            have := a5 x (by omega)
            rw [wI_i, if_neg (by omega), wI_i, if_neg (by omega)] at this
            exact this
      by_cases c3 : K t < 25
      · rw [if_pos (show nI (K t) < 25 by rw [L_25]; exact nI_lt c3 (by omega))]; exact j
      · rw [if_neg (show ¬ nI (K t) < 25 by rw [L_25]; exact nI_nlt (by omega) (hK t)), if_pos (show (33 : Int32) < nI (K t) by rw [L_33]; exact nI_lt (by omega) (hK t))]; exact j

theorem c_pro13 {K V : Nat → Nat} {N : Nat → List Nat} {P : Nat → Nat} {U : Nat → PR Cd} {rec : Nat → Int32 → Mem → Option (Bool × Mem)} {D : Nat} {a : Int32} (hK : ∀ t, K t < 2 ^ 31) (cU : cImp K V N P U (rec 221 a)) (gU : gdP K D U) : ∀ f n i m t p c m0, 400 < t + f → f ≤ n → i < t → cPS K V N P m t (p + c.length) → cCode m 221 p c → Fr WE m0 m → (∀ x, x < p → m.1 222 x = m0.1 222 x ∧ m.1 223 x = m0.1 223 x) → cOut (opsP K 8 U f c t) (fX4_readProduct_13 rec 221 a (fun μ8 => some (true, μ8)) (n + 1) (nI i) m) m0 p := by
  intro f
  induction f with
  | zero => intro n i m t p c m0 hf _ _ h; have := h.2.2.1; omega
  | succ f ih =>
    intro n i m t p c m0 hf hn hi h hc hfr hlo
    have hh := h
    obtain ⟨h1, h2, h3, h4, h5, h6⟩ := h
    have t5 := (h1 t h3 h4).1
    rw [opsP, fX4_readProduct_13, if_pos (c_lt L_400 (by omega) (by omega)), c_kind hh, bind_s, bind_s]
    by_cases k : K t = 8 ∨ K t = 8 + 1
    · rw [if_pos k]
      have body : cOut (pb (tkP K (K t) t) fun _ t1 => pb (U t1) fun c2 t2 => opsP K 8 U f (c ++ (c2 ++ [(K t - 4, 0)])) t2) (fX4_readProduct_j38_13 rec 221 (fun z0 zm => fX4_readProduct_13 rec 221 a (fun μ8 => some (true, μ8)) n z0 zm) (fun μ8 => some (true, μ8)) a (nI i) m) m0 p := by
        unfold fX4_readProduct_j38_13
        rw [c_kind hh, bind_s]
        have tk := c_take (K := K) (k := K t) h3 h2 t5 (hK t) (hK t)
        cases ek : tkP K (K t) t with
        | error q =>
          obtain ⟨f0, t0⟩ := q
          obtain ⟨rfl, _⟩ := tk_er ek
          refine ⟨fun c t' e => (by cases e), fun f t' e => ?_⟩
          cases e
          refine ⟨wI m 3 0 (nI f0), ?_, hfr.trans (wI3 (Or.inl rfl)), by rw [wI_i, if_pos ⟨rfl, rfl⟩], by rw [wI_i, if_neg (by omega)]; exact h2⟩
          rw [tk.2 _ _ ek, bind_s, if_neg Bool.false_ne_true]
        | ok q =>
          obtain ⟨u, t1⟩ := q
          obtain ⟨_, lt, rfl⟩ := tk_ok ek
          rw [tk.1 _ _ ek, bind_s, if_pos rfl]
          have ps1 : cPS K V N P (wI m 3 3 (nI (t + 1))) (t + 1) (p + c.length) := ⟨h1.fr (Sm.wI (by omega)), by rw [wI_i, if_pos ⟨rfl, rfl⟩], by omega, fun j hj => by
            rcases (show j < t ∨ j = t by omega) with q | q
            · exact h4 j q
            · rw [q]; omega, by rw [wI_i, if_neg (by omega)]; exact h5, by omega⟩
          obtain ⟨o1, o2⟩ := cU _ _ _ ps1
          show cOut (pb (U (t + 1)) fun c2 t2 => opsP K 8 U f (c ++ (c2 ++ [(K t - 4, 0)])) t2) _ m0 p
          cases es : U (t + 1) with
          | error q =>
            obtain ⟨f0, t0⟩ := q
            obtain ⟨m', x1, x2, x3, x4⟩ := o2 f0 t0 es
            refine ⟨fun c t' e => (by cases e), fun f t' e => ?_⟩
            cases e
            refine ⟨m', ?_, (hfr.trans (wI3 (Or.inr rfl))).trans x2, x3, x4⟩
            rw [x1, bind_s, if_neg Bool.false_ne_true]
          | ok q =>
            obtain ⟨c2, t2⟩ := q
            obtain ⟨m', x1, x2, x3, x4, x5, x6⟩ := o1 c2 t2 es
            obtain ⟨g1, g2, g3, g4, g5⟩ := (gU (t + 1) (by omega)).1 c2 t2 es
            have k0 : ∀ j, j < t2 → 2 ≤ K j := by
              intro j hj
              rcases (show j < t ∨ j = t ∨ t + 1 ≤ j by omega) with q | q | q
              · exact h4 j q
              · rw [q]; omega
              · exact g4 j q hj
            obtain ⟨m1, a1, a2, a3, a4, a5⟩ := c_ladd (m := m') (p := p + c.length + c2.length) (nI (K t)) 0 (by omega) x4
            have fA : Fr (WX2_add 221) m' m1 := frX2_add _ _ _ _ _ a1
            have f1 : Fr WE m' m1 := ladd_fr a1
            have fall : Fr WE m0 m1 := ((hfr.trans (wI3 (Or.inr rfl))).trans x2).trans f1
            have low : ∀ x, x < p + c.length → m1.1 222 x = m.1 222 x ∧ m1.1 223 x = m.1 223 x := by
              intro x hx
              have y1 := a5 x (by omega)
              have y2 := x6 x hx
              rw [wI_i, if_neg (by omega), wI_i, if_neg (by omega)] at y2
              exact ⟨y1.1.trans y2.1, y1.2.trans y2.2⟩
            rw [x1, bind_s, if_pos rfl, a1, bind_s, nI_1]
            have hps : cPS K V N P m1 t2 (p + (c ++ (c2 ++ [(K t - 4, 0)])).length) := by
              refine ⟨(ps1.1.fr (WE_sm x2)).fr (WE_sm f1), ?_, g2, k0, ?_, ?_⟩
              · rw [(fA 3 3 (by simp [WX2_add, inW])).1]; exact x3
              · rw [a2]; congr 1; simp only [List.length_append, List.length_cons, List.length_nil]; omega
              · simp only [List.length_append, List.length_cons, List.length_nil]; omega
            have hone : cCode m1 221 (p + c.length + c2.length) [(K t - 4, 0)] := by
              refine ⟨?_, fun q => ?_, trivial⟩
              · show m1.1 222 (p + c.length + c2.length) = nI (stepC (K t - 4))
                rw [a3]
                unfold stepC
                rw [if_neg (by omega), if_neg (by omega), show K t - 4 + 4 = K t by omega]
              · exact absurd q (by show ¬ K t - 4 < 2; omega)
            have hcc : cCode m1 221 p (c ++ (c2 ++ [(K t - 4, 0)])) := cCode_cat (cCode_ext hc (fun x _ hx => low x hx)) (cCode_cat (cCode_ext x5 (fun x _ hx => a5 x (by omega))) hone)
            have r := ih (n - 1) (i + 1) m1 t2 p (c ++ (c2 ++ [(K t - 4, 0)])) m0 (by omega) (by omega) (by omega) hps hcc fall (fun x hx => ⟨(low x (by omega)).1.trans (hlo x hx).1, (low x (by omega)).2.trans (hlo x hx).2⟩)
            rw [show n - 1 + 1 = n by omega] at r
            exact r
      rcases k with q | q
      · rw [if_pos (show nI (K t) = 8 by rw [q]; rfl)]; exact body
      · rw [if_neg (show ¬ nI (K t) = 8 by rw [q]; decide), if_pos (show nI (K t) = 9 by rw [q]; rfl)]; exact body
    · rw [if_neg k, if_neg (show ¬ nI (K t) = 8 from fun q => k (Or.inl ((nI_eq (b := 8) (hK t) (by omega)).1 q))), if_neg (show ¬ nI (K t) = 9 from fun q => k (Or.inr ((nI_eq (b := 9) (hK t) (by omega)).1 q)))]
      refine ⟨fun c' t' e => ?_, fun f t' e => (by cases e)⟩
      cases e
      exact ⟨m, rfl, hfr, h2, h5, hc, hlo⟩
theorem c_pro {K V : Nat → Nat} {N : Nat → List Nat} {P : Nat → Nat} {U : Nat → PR Cd} {rec : Nat → Int32 → Mem → Option (Bool × Mem)} {D : Nat} {a : Int32} (hK : ∀ t, K t < 2 ^ 31) (cU : cImp K V N P U (rec 221 a)) (gU : gdP K D U) : cImp K V N P (fun t => pb (U t) fun c t1 => opsP K 8 U 401 c t1) (fX4_readProduct_o rec 221 a) := by
  intro m t p h
  have hh := h
  obtain ⟨h1, h2, h3, h4, h5, h6⟩ := h
  unfold fX4_readProduct_o
  obtain ⟨o1, o2⟩ := cU _ _ _ hh
  show cOut (pb (U t) fun c t1 => opsP K 8 U 401 c t1) _ m p
  cases es : U t with
  | error q =>
    obtain ⟨f0, t0⟩ := q
    obtain ⟨m', x1, x2, x3, x4⟩ := o2 f0 t0 es
    refine ⟨fun c t' e => (by cases e), fun f t' e => ?_⟩
    cases e
    refine ⟨m', ?_, x2, x3, x4⟩
    rw [x1, bind_s, if_neg Bool.false_ne_true]
  | ok q =>
    obtain ⟨c2, t2⟩ := q
    obtain ⟨m', x1, x2, x3, x4, x5, x6⟩ := o1 c2 t2 es
    obtain ⟨g1, g2, g3, g4, g5⟩ := (gU t h3).1 c2 t2 es
    rw [x1, bind_s, if_pos rfl]
    have k0 : ∀ j, j < t2 → 2 ≤ K j := by
      intro j hj
      rcases (show j < t ∨ t ≤ j by omega) with q | q
      · exact h4 j q
      · exact g4 j q hj
    exact c_pro13 hK cU gU 401 4095 0 m' t2 p c2 m (by omega) (by omega) (by omega) ⟨h1.fr (WE_sm x2), x3, g2, k0, x4, by omega⟩ x5 x2 x6

theorem c_sum13 {K V : Nat → Nat} {N : Nat → List Nat} {P : Nat → Nat} {U : Nat → PR Cd} {rec : Nat → Int32 → Mem → Option (Bool × Mem)} {D : Nat} {a : Int32} (hK : ∀ t, K t < 2 ^ 31) (cU : cImp K V N P U (rec 221 a)) (gU : gdP K D U) : ∀ f n i m t p c m0, 400 < t + f → f ≤ n → i < t → cPS K V N P m t (p + c.length) → cCode m 221 p c → Fr WE m0 m → (∀ x, x < p → m.1 222 x = m0.1 222 x ∧ m.1 223 x = m0.1 223 x) → cOut (opsP K 6 U f c t) (fX4_readSum_13 rec 221 a (fun μ8 => some (true, μ8)) (n + 1) (nI i) m) m0 p := by
  intro f
  induction f with
  | zero => intro n i m t p c m0 hf _ _ h; have := h.2.2.1; omega
  | succ f ih =>
    intro n i m t p c m0 hf hn hi h hc hfr hlo
    have hh := h
    obtain ⟨h1, h2, h3, h4, h5, h6⟩ := h
    have t5 := (h1 t h3 h4).1
    rw [opsP, fX4_readSum_13, if_pos (c_lt L_400 (by omega) (by omega)), c_kind hh, bind_s, bind_s]
    by_cases k : K t = 6 ∨ K t = 6 + 1
    · rw [if_pos k]
      have body : cOut (pb (tkP K (K t) t) fun _ t1 => pb (U t1) fun c2 t2 => opsP K 6 U f (c ++ (c2 ++ [(K t - 4, 0)])) t2) (fX4_readSum_j38_13 rec 221 (fun z0 zm => fX4_readSum_13 rec 221 a (fun μ8 => some (true, μ8)) n z0 zm) (fun μ8 => some (true, μ8)) a (nI i) m) m0 p := by
        unfold fX4_readSum_j38_13
        rw [c_kind hh, bind_s]
        have tk := c_take (K := K) (k := K t) h3 h2 t5 (hK t) (hK t)
        cases ek : tkP K (K t) t with
        | error q =>
          obtain ⟨f0, t0⟩ := q
          obtain ⟨rfl, _⟩ := tk_er ek
          refine ⟨fun c t' e => (by cases e), fun f t' e => ?_⟩
          cases e
          refine ⟨wI m 3 0 (nI f0), ?_, hfr.trans (wI3 (Or.inl rfl)), by rw [wI_i, if_pos ⟨rfl, rfl⟩], by rw [wI_i, if_neg (by omega)]; exact h2⟩
          rw [tk.2 _ _ ek, bind_s, if_neg Bool.false_ne_true]
        | ok q =>
          obtain ⟨u, t1⟩ := q
          obtain ⟨_, lt, rfl⟩ := tk_ok ek
          rw [tk.1 _ _ ek, bind_s, if_pos rfl]
          have ps1 : cPS K V N P (wI m 3 3 (nI (t + 1))) (t + 1) (p + c.length) := ⟨h1.fr (Sm.wI (by omega)), by rw [wI_i, if_pos ⟨rfl, rfl⟩], by omega, fun j hj => by
            rcases (show j < t ∨ j = t by omega) with q | q
            · exact h4 j q
            · rw [q]; omega, by rw [wI_i, if_neg (by omega)]; exact h5, by omega⟩
          obtain ⟨o1, o2⟩ := cU _ _ _ ps1
          show cOut (pb (U (t + 1)) fun c2 t2 => opsP K 6 U f (c ++ (c2 ++ [(K t - 4, 0)])) t2) _ m0 p
          cases es : U (t + 1) with
          | error q =>
            obtain ⟨f0, t0⟩ := q
            obtain ⟨m', x1, x2, x3, x4⟩ := o2 f0 t0 es
            refine ⟨fun c t' e => (by cases e), fun f t' e => ?_⟩
            cases e
            refine ⟨m', ?_, (hfr.trans (wI3 (Or.inr rfl))).trans x2, x3, x4⟩
            rw [x1, bind_s, if_neg Bool.false_ne_true]
          | ok q =>
            obtain ⟨c2, t2⟩ := q
            obtain ⟨m', x1, x2, x3, x4, x5, x6⟩ := o1 c2 t2 es
            obtain ⟨g1, g2, g3, g4, g5⟩ := (gU (t + 1) (by omega)).1 c2 t2 es
            have k0 : ∀ j, j < t2 → 2 ≤ K j := by
              intro j hj
              rcases (show j < t ∨ j = t ∨ t + 1 ≤ j by omega) with q | q | q
              · exact h4 j q
              · rw [q]; omega
              · exact g4 j q hj
            obtain ⟨m1, a1, a2, a3, a4, a5⟩ := c_ladd (m := m') (p := p + c.length + c2.length) (nI (K t)) 0 (by omega) x4
            have fA : Fr (WX2_add 221) m' m1 := frX2_add _ _ _ _ _ a1
            have f1 : Fr WE m' m1 := ladd_fr a1
            have fall : Fr WE m0 m1 := ((hfr.trans (wI3 (Or.inr rfl))).trans x2).trans f1
            have low : ∀ x, x < p + c.length → m1.1 222 x = m.1 222 x ∧ m1.1 223 x = m.1 223 x := by
              intro x hx
              have y1 := a5 x (by omega)
              have y2 := x6 x hx
              rw [wI_i, if_neg (by omega), wI_i, if_neg (by omega)] at y2
              exact ⟨y1.1.trans y2.1, y1.2.trans y2.2⟩
            rw [x1, bind_s, if_pos rfl, a1, bind_s, nI_1]
            have hps : cPS K V N P m1 t2 (p + (c ++ (c2 ++ [(K t - 4, 0)])).length) := by
              refine ⟨(ps1.1.fr (WE_sm x2)).fr (WE_sm f1), ?_, g2, k0, ?_, ?_⟩
              · rw [(fA 3 3 (by simp [WX2_add, inW])).1]; exact x3
              · rw [a2]; congr 1; simp only [List.length_append, List.length_cons, List.length_nil]; omega
              · simp only [List.length_append, List.length_cons, List.length_nil]; omega
            have hone : cCode m1 221 (p + c.length + c2.length) [(K t - 4, 0)] := by
              refine ⟨?_, fun q => ?_, trivial⟩
              · show m1.1 222 (p + c.length + c2.length) = nI (stepC (K t - 4))
                rw [a3]
                unfold stepC
                rw [if_neg (by omega), if_neg (by omega), show K t - 4 + 4 = K t by omega]
              · exact absurd q (by show ¬ K t - 4 < 2; omega)
            have hcc : cCode m1 221 p (c ++ (c2 ++ [(K t - 4, 0)])) := cCode_cat (cCode_ext hc (fun x _ hx => low x hx)) (cCode_cat (cCode_ext x5 (fun x _ hx => a5 x (by omega))) hone)
            have r := ih (n - 1) (i + 1) m1 t2 p (c ++ (c2 ++ [(K t - 4, 0)])) m0 (by omega) (by omega) (by omega) hps hcc fall (fun x hx => ⟨(low x (by omega)).1.trans (hlo x hx).1, (low x (by omega)).2.trans (hlo x hx).2⟩)
            rw [show n - 1 + 1 = n by omega] at r
            exact r
      rcases k with q | q
      · rw [if_pos (show nI (K t) = 6 by rw [q]; rfl)]; exact body
      · rw [if_neg (show ¬ nI (K t) = 6 by rw [q]; decide), if_pos (show nI (K t) = 7 by rw [q]; rfl)]; exact body
    · rw [if_neg k, if_neg (show ¬ nI (K t) = 6 from fun q => k (Or.inl ((nI_eq (b := 6) (hK t) (by omega)).1 q))), if_neg (show ¬ nI (K t) = 7 from fun q => k (Or.inr ((nI_eq (b := 7) (hK t) (by omega)).1 q)))]
      refine ⟨fun c' t' e => ?_, fun f t' e => (by cases e)⟩
      cases e
      exact ⟨m, rfl, hfr, h2, h5, hc, hlo⟩
theorem c_sum {K V : Nat → Nat} {N : Nat → List Nat} {P : Nat → Nat} {U : Nat → PR Cd} {rec : Nat → Int32 → Mem → Option (Bool × Mem)} {D : Nat} {a : Int32} (hK : ∀ t, K t < 2 ^ 31) (cU : cImp K V N P U (rec 221 a)) (gU : gdP K D U) : cImp K V N P (fun t => pb (U t) fun c t1 => opsP K 6 U 401 c t1) (fX4_readSum_o rec 221 a) := by
  intro m t p h
  have hh := h
  obtain ⟨h1, h2, h3, h4, h5, h6⟩ := h
  unfold fX4_readSum_o
  obtain ⟨o1, o2⟩ := cU _ _ _ hh
  show cOut (pb (U t) fun c t1 => opsP K 6 U 401 c t1) _ m p
  cases es : U t with
  | error q =>
    obtain ⟨f0, t0⟩ := q
    obtain ⟨m', x1, x2, x3, x4⟩ := o2 f0 t0 es
    refine ⟨fun c t' e => (by cases e), fun f t' e => ?_⟩
    cases e
    refine ⟨m', ?_, x2, x3, x4⟩
    rw [x1, bind_s, if_neg Bool.false_ne_true]
  | ok q =>
    obtain ⟨c2, t2⟩ := q
    obtain ⟨m', x1, x2, x3, x4, x5, x6⟩ := o1 c2 t2 es
    obtain ⟨g1, g2, g3, g4, g5⟩ := (gU t h3).1 c2 t2 es
    rw [x1, bind_s, if_pos rfl]
    have k0 : ∀ j, j < t2 → 2 ≤ K j := by
      intro j hj
      rcases (show j < t ∨ t ≤ j by omega) with q | q
      · exact h4 j q
      · exact g4 j q hj
    exact c_sum13 hK cU gU 401 4095 0 m' t2 p c2 m (by omega) (by omega) (by omega) ⟨h1.fr (WE_sm x2), x3, g2, k0, x4, by omega⟩ x5 x2 x6

theorem c_exp {K V : Nat → Nat} {N : Nat → List Nat} {P : Nat → Nat} (hK : ∀ t, K t < 2 ^ 31) (hV : ∀ t, V t < 2 ^ 31) : ∀ e k, e ≤ 6 → e < k → cImp K V N P (expP K V e) (fRS k 221 (nI (6 - e)))
  | e, 0, _, h => by omega
  | 0, k + 1, _, _ => by
    have hU : cImp K V N P (uniP K V none) (fX4_readUnit_o (fun t a μ => fRS k t a μ) 221 (nI 6)) := c_unit (D := 0) hK hV (by omega) (by simp) (by intro s q; cases q)
    have gU : gdP K 14 (uniP K V none) := gd_uni (by omega) (by intro s q; cases q)
    have cP := c_pro (rec := fun t a μ => fX4_readUnit_o (fun t a μ => fRS k t a μ) t a μ) (a := nI 6) hK hU gU
    have gP : gdP K 13 (proP K (uniP K V none)) := gd_pro gU
    exact c_sum (rec := fun t a μ => fX4_readProduct_o (fun t a μ => fX4_readUnit_o (fun t a μ => fRS k t a μ) t a μ) t a μ) (a := nI 6) hK (U := proP K (uniP K V none)) cP gP
  | e + 1, k + 1, he, hk => by
    have ih := c_exp hK hV e k (by omega) (by omega) (N := N) (P := P)
    have gE := gd_exp (K := K) (V := V) e (by omega)
    have hU : cImp K V N P (uniP K V (some (expP K V e))) (fX4_readUnit_o (fun t a μ => fRS k t a μ) 221 (nI (6 - (e + 1)))) := c_unit (D := 2 * (6 - e)) hK hV (by omega) ⟨fun q => (by cases q), fun q => (by omega)⟩ (by
      intro s q
      cases q
      refine ⟨?_, gE⟩
      rw [show 6 - (e + 1) + 1 = 6 - e by omega]
      exact ih)
    have gU : gdP K (2 * (6 - e)) (uniP K V (some (expP K V e))) := gd_uni (by omega) (by intro s q; cases q; exact gE)
    have cP := c_pro (rec := fun t a μ => fX4_readUnit_o (fun t a μ => fRS k t a μ) t a μ) (a := nI (6 - (e + 1))) hK hU gU
    have gU2 : gdP K (2 * (6 - (e + 1)) + 2) (uniP K V (some (expP K V e))) := by rw [show 2 * (6 - (e + 1)) + 2 = 2 * (6 - e) by omega]; exact gU
    have gP : gdP K (2 * (6 - (e + 1)) + 1) (proP K (uniP K V (some (expP K V e)))) := gd_pro gU2
    exact c_sum (rec := fun t a μ => fX4_readProduct_o (fun t a μ => fX4_readUnit_o (fun t a μ => fRS k t a μ) t a μ) t a μ) (a := nI (6 - (e + 1))) hK (U := proP K (uniP K V (some (expP K V e)))) cP gP
theorem c_readSum {K V : Nat → Nat} {N : Nat → List Nat} {P : Nat → Nat} (hK : ∀ t, K t < 2 ^ 31) (hV : ∀ t, V t < 2 ^ 31) : cImp K V N P (expP K V 6) (fX4_readSum 221 0) := c_exp hK hV 6 8 (by omega) (by omega)
