/-! ===== the reference reads a term: its small steps ===== -/
abbrev WQ : CellL := WX11_expression
def rTK (K V : Nat → Nat) (N : Nat → List Nat) (P : Nat → Nat) (μ : Mem) : Prop := ∀ t, t ≤ 400 → (∀ j, j < t → 2 ≤ K j) → μ.1 246 t = nI (kR (K t)) ∧ μ.1 247 t = nI (P t) ∧ (K t = 3 → μ.1 248 t = nI (V t)) ∧ (K t = 2 → μ.2 249 t = lN (pkw 27 (N t)))
theorem rTK.fr {K V : Nat → Nat} {N : Nat → List Nat} {P : Nat → Nat} {μ m : Mem} (h : rTK K V N P μ) (f : Sm 246 249 μ m) : rTK K V N P m := by
  intro t ht hk
  rw [f.i 246 t (by omega) (by omega), f.i 247 t (by omega) (by omega), f.i 248 t (by omega) (by omega), f.l 249 t (by omega) (by omega)]
  exact h t ht hk
theorem WQ_sm {μ m : Mem} (f : Fr WQ μ m) : Sm 246 249 μ m := smF 246 249 f (by decide)
/-- what a term written at q.. leaves alone -/
def FQ (B q : Nat) (m0 m : Mem) : Prop := Fr WQ m0 m ∧ ∀ x, x < q ∨ B + 400 < x → m.1 271 x = m0.1 271 x ∧ m.1 272 x = m0.1 272 x
theorem FQ.rfl {B q : Nat} {m : Mem} : FQ B q m m := ⟨Fr.rfl, fun _ _ => ⟨Eq.refl _, Eq.refl _⟩⟩
theorem FQ.wI {B q : Nat} {m0 m : Mem} {a j : Nat} {v : Int32} (h : FQ B q m0 m) (k : inW WQ a j) (n : ¬ (a = 271 ∨ a = 272) := by decide) : FQ B q m0 (wI m a j v) := by
  refine ⟨h.1.wI k, fun x hx => ?_⟩
  have := h.2 x hx
  rw [wI_i, if_neg (by omega), wI_i, if_neg (by omega)]
  exact this
theorem FQ.em {B q i : Nat} {m0 m m1 : Mem} (h : FQ B q m0 m) (f : Fr WX11_emit m m1) (k : ∀ x, x ≠ i → m1.1 271 x = m.1 271 x ∧ m1.1 272 x = m.1 272 x) (h1 : q ≤ i) (h2 : i ≤ B + 400) : FQ B q m0 m1 := by
  refine ⟨h.1.trans (f.mono (by intro x y; simp [WX11_emit, WQ, WX11_expression, inW]; omega)), fun x hx => ?_⟩
  have y1 := h.2 x hx
  have y2 := k x (by omega)
  exact ⟨y2.1.trans y1.1, y2.2.trans y1.2⟩
def wtk (m : Mem) : List Nat → Prop
  | [] => True
  | v :: r => m.1 273 r.length = nI v ∧ wtk m r
theorem wtk_ext {m m' : Mem} : ∀ {w : List Nat}, wtk m w → (∀ x, x < w.length → m'.1 273 x = m.1 273 x) → wtk m' w
  | [], _, _ => trivial
  | v :: r, h, k => by
    simp only [List.length_cons] at k
    exact ⟨by rw [k r.length (by omega)]; exact h.1, wtk_ext h.2 (fun x hx => k x (by omega))⟩
def wOk (w : List Nat) : Prop := ∀ v, v ∈ w → v = 6 ∨ v = 8 ∨ v = 9 ∨ v = 10 ∨ v = 15
/-- where the reference stands within a term -/
abbrev rES (K V : Nat → Nat) (N : Nat → List Nat) (P : Nat → Nat) (B : Nat) (m0 : Mem) (q : Nat) (φ : Int32) (m : Mem) (t : Nat) (w : List Nat) (o : Nat) (c : Cd) : Prop :=
  rTK K V N P m ∧ m.1 243 11 = nI t ∧ t ≤ 400 ∧ (∀ j, j < t → 2 ≤ K j) ∧ m.1 243 13 = φ ∧ m.1 243 12 = nI o ∧ o ≤ 6 ∧ m.1 243 46 = nI w.length ∧ wtk m w ∧ wOk w ∧ w.length ≤ 30 ∧ m.1 243 42 = nI (q + c.length) ∧ q + c.length + w.length ≤ B + t ∧ rCode m q c ∧ FQ B q m0 m ∧ (∀ x, x < q → m.1 271 x = m0.1 271 x ∧ m.1 272 x = m0.1 272 x)
theorem kR_lt : ∀ k, k < 34 → kR k < 41 := by decide +kernel
theorem kR_a : ∀ k, k < 34 → (kR k = 6 ↔ k = 11) ∧ (kR k = 7 ↔ k = 12) ∧ (kR k = 8 ↔ k = 6) ∧ (kR k = 9 ↔ k = 7) ∧ (kR k = 10 ↔ k = 8) ∧ (kR k = 15 ↔ k = 9) := by decide +kernel
theorem kR_b : ∀ k, k < 34 → (kR k = 2 ↔ k = 3) ∧ (kR k = 13 ↔ k = 10) ∧ (kR k = 4 ↔ k = 4) ∧ (kR k = 5 ↔ k = 5) ∧ (kR k = 1 ↔ k = 2) ∧ (kR k = 0 ↔ k = 0) := by decide +kernel
theorem kR_c : ∀ k, k < 34 → (kR k = 29 ↔ k = 22) ∧ (kR k = 30 ↔ k = 23) ∧ (kR k = 31 ↔ k = 24) ∧ (32 ≤ kR k ↔ 25 ≤ k) := by decide +kernel
def opc (v : Nat) : Nat := if v = 8 then 2 else if v = 9 then 3 else if v = 10 then 4 else 5
theorem opc_2 (v : Nat) : ¬ opc v < 2 := by
  unfold opc
  split
  · omega
  · split
    · omega
    · split <;> omega
theorem r_is {K : Nat → Nat} {m : Mem} {t x : Nat} (ht : t ≤ 400) (h11 : m.1 243 11 = nI t) (h13 : m.1 243 13 = 0) (hk : m.1 246 t = nI (kR (K t))) (kk : K t < 34) (hx : x < 2 ^ 31) : fX11_is (nI x) m = some (decide (kR (K t) = x)) := by
  have := kR_lt (K t) kk
  unfold fX11_is
  rw [h13, if_pos rfl, h11, if_pos (inbN (by omega) (by omega)), nI_clamp (by omega), hk]
  by_cases c : kR (K t) = x
  · rw [if_pos (by rw [c]), decide_eq_true c]
  · rw [if_neg (fun q => c ((nI_eq (by omega) hx).1 q)), decide_eq_false c]
theorem r_is_f {m : Mem} {x : Int32} (h13 : ¬ m.1 243 13 = 0) : fX11_is x m = some false := by unfold fX11_is; rw [if_neg h13]
theorem r_fail_f {m : Mem} {x : Int32} (h13 : 0 < m.1 243 13) : fX11_fail x m = some m := by unfold fX11_fail; rw [if_pos h13]
theorem r_fail {P : Nat → Nat} {m : Mem} {t : Nat} {x : Int32} (ht : t ≤ 402) (h11 : m.1 243 11 = nI t) (h13 : m.1 243 13 = 0) (hp : m.1 247 t = nI (P t)) : fX11_fail x m = some (wI (wI m 243 13 x) 243 14 (nI (P t))) := by
  have e1 : (wI m 243 13 x).1 243 11 = nI t := by rw [wI_i, if_neg (by omega)]; exact h11
  have e2 : (wI m 243 13 x).1 247 t = nI (P t) := by rw [wI_i, if_neg (by omega)]; exact hp
  unfold fX11_fail
  rw [h13, if_neg (by decide), nm_ap, e1, if_pos (inbN (by omega) (by omega)), nI_clamp (by omega), e2, nm_ap]
theorem r_goesOn {m : Mem} {t : Nat} (ht : t < 400) (h11 : m.1 243 11 = nI t) : fX11_goesOn m = some (wI m 243 11 (nI (t + 1))) := by
  unfold fX11_goesOn
  rw [h11, if_neg (show ¬ nI t = 400 from fun q => by have := (nI_eq (b := 400) (by omega) (by omega)).1 q; omega), nm_ap, nI_1]
theorem r_goesOn_f {P : Nat → Nat} {m : Mem} {t : Nat} (ht : t = 400) (h11 : m.1 243 11 = nI t) (h13 : m.1 243 13 = 0) (hp : m.1 247 t = nI (P t)) : fX11_goesOn m = some (wI (wI m 243 13 2) 243 14 (nI (P t))) := by
  unfold fX11_goesOn
  rw [h11, if_pos (by rw [ht]; rfl), r_fail (by omega) h11 h13 hp, bind_s]
theorem r_emit {m : Mem} {q : Nat} {a v : Int32} (hq : q < 840) (h : m.1 243 42 = nI q) : ∃ m', fX11_emit a v m = some m' ∧ m'.1 243 42 = nI (q + 1) ∧ m'.1 271 q = a ∧ m'.1 272 q = v ∧ (∀ x, x ≠ q → m'.1 271 x = m.1 271 x ∧ m'.1 272 x = m.1 272 x) ∧ (∀ x j, ¬ (x = 271 ∨ x = 272 ∨ (x = 243 ∧ j = 42)) → m'.1 x j = m.1 x j ∧ m'.2 x j = m.2 x j) := by
  have bq : inb (nI q) 840 := inbN (by omega) (by omega)
  have cq : (nI q).toNatClampNeg = q := nI_clamp (by omega)
  have e1 : (wI m 271 q a).1 243 42 = nI q := by rw [wI_i, if_neg (by omega)]; exact h
  have e2 : (wI (wI m 271 q a) 272 q v).1 243 42 = nI q := by rw [wI_i, if_neg (by omega)]; exact e1
  unfold fX11_emit
  rw [h]
  simp only [if_pos bq, cq, nm_ap, e1, e2, nI_1]
  refine ⟨_, rfl, ?_, ?_, ?_, ?_, ?_⟩
  · rw [wI_i, if_pos ⟨rfl, rfl⟩]
  · rw [wI_i, if_neg (by omega), wI_i, if_neg (by omega), wI_i, if_pos ⟨rfl, rfl⟩]
  · rw [wI_i, if_neg (by omega), wI_i, if_pos ⟨rfl, rfl⟩]
  · intro x hx
    exact ⟨by rw [wI_i, if_neg (by omega), wI_i, if_neg (by omega), wI_i, if_neg (by omega)], by rw [wI_i, if_neg (by omega), wI_i, if_neg (by omega), wI_i, if_neg (by omega)]⟩
  · intro x j hx
    exact ⟨by rw [wI_i, if_neg (by omega), wI_i, if_neg (by omega), wI_i, if_neg (by omega)], rfl⟩
def flu (p : List Nat) : Cd := p.map fun v => (opc v, 0)
theorem rCode_ext {m m' : Mem} : ∀ {c : Cd} {p : Nat}, rCode m p c → (∀ x, p ≤ x → x < p + c.length → m'.1 271 x = m.1 271 x ∧ m'.1 272 x = m.1 272 x) → rCode m' p c
  | [], _, _, _ => trivial
  | x :: c, p, h, k => by
    simp only [List.length_cons] at k
    have k0 := k p (by omega) (by omega)
    exact ⟨by rw [k0.1]; exact h.1, fun hx => by rw [k0.2]; exact h.2.1 hx, rCode_ext h.2.2 (fun y y1 y2 => k y (by omega) (by omega))⟩
theorem rCode_cat {m : Mem} : ∀ {u v : Cd} {p : Nat}, rCode m p u → rCode m (p + u.length) v → rCode m p (u ++ v)
  | [], v, p, _, h => h
  | x :: u, v, p, h, k => by
    refine ⟨h.1, h.2.1, rCode_cat h.2.2 ?_⟩
    rw [List.length_cons, show p + (u.length + 1) = p + 1 + u.length by omega] at k
    exact k
/-- the waiting signs p come out, up to r -/
theorem r_comesOut {K V : Nat → Nat} {N : Nat → List Nat} {P : Nat → Nat} {B : Nat} {m0 : Mem} {q : Nat} {φ : Int32} (hB : B + 400 < 840) (s : Int32) : ∀ (p r : List Nat) (f : Nat) (m : Mem) (t o : Nat) (c : Cd), p.length < f → rES K V N P B m0 q φ m t (p ++ r) o c → (∀ v, v ∈ p → v ≠ 6 ∧ (s = 0 ∨ (v ≠ 8 ∧ v ≠ 9))) → (r = [] ∨ ∃ x r', r = x :: r' ∧ (x = 6 ∨ (s ≠ 0 ∧ (x = 8 ∨ x = 9)))) →
    ∃ m', fX11_comesOut_0 s (fun μ7 => some μ7) f m = some m' ∧ rES K V N P B m0 q φ m' t r o (c ++ flu p)
  | [], r, 0, m, t, o, c, hf, _, _, _ => by simp at hf
  | v :: p, r, 0, m, t, o, c, hf, _, _, _ => by simp at hf
  | [], r, f + 1, m, t, o, c, hf, h, _, hr => by
    refine ⟨m, ?_, by rw [show c ++ flu [] = c by simp [flu]]; exact h⟩
    have h46 := h.2.2.2.2.2.2.2.1
    have hw := h.2.2.2.2.2.2.2.2.1
    have hl := h.2.2.2.2.2.2.2.2.2.2.1
    rw [fX11_comesOut_0, h46]
    rcases hr with e | ⟨x, r', e, hx⟩
    · subst e
      rw [if_neg (by decide)]
    · subst e
      simp only [List.nil_append, List.length_cons] at hl ⊢
      have bi : inb (nI r'.length) 64 := inbN (by omega) (by omega)
      have ci : (nI r'.length).toNatClampNeg = r'.length := nI_clamp (by omega)
      rw [if_pos (by rw [L_0]; exact nI_lt (by omega) (by omega)), nI_pred]
      simp only [if_pos bi, ci, nm_ap]
      rw [hw.1]
      rcases hx with e | ⟨s0, e | e⟩
      · subst e; rw [if_pos (by rfl)]
      · subst e; rw [if_neg (by decide), if_neg s0, if_pos (by rfl)]
      · subst e; rw [if_neg (by decide), if_neg s0, if_neg (by decide), if_pos (by rfl)]
  | v :: p, r, f + 1, m, t, o, c, hf, h, hp, hr => by
    obtain ⟨a1, a2, a3, a4, a5, a6, a7, a8, a9, a10, a11, a12, a13, a14, a15, a16⟩ := h
    simp only [List.cons_append, List.length_cons, List.length_append] at a8 a11 a13 hf
    have bi : inb (nI (p.length + r.length)) 64 := inbN (by omega) (by omega)
    have ci : (nI (p.length + r.length)).toNatClampNeg = p.length + r.length := nI_clamp (by omega)
    have hv := hp v (List.mem_cons_self ..)
    have vo := a10 v (by simp)
    have cell : m.1 273 (p.length + r.length) = nI v := by rw [← List.length_append]; exact a9.1
    have vne : ∀ z, z < 100 → v ≠ z → ¬ nI v = nI z := fun z hz q e => q ((nI_eq (by omega) (by omega)).1 e)
    have e42 : (wI m 243 46 (nI (p.length + r.length))).1 243 42 = nI (q + c.length) := by rw [wI_i, if_neg (by omega)]; exact a12
    obtain ⟨m1, b1, b2, b3, b4, b5, b6⟩ := r_emit (m := wI m 243 46 (nI (p.length + r.length))) (a := nI (opc v)) (v := 0) (by omega) e42
    have keep : ∀ x j, ¬ (x = 271 ∨ x = 272 ∨ (x = 243 ∧ j = 42)) → ¬ (x = 243 ∧ j = 46) → m1.1 x j = m.1 x j ∧ m1.2 x j = m.2 x j := by
      intro x j k1 k2
      have := b6 x j k1
      rw [wI_i, if_neg k2] at this
      exact this
    have es : rES K V N P B m0 q φ m1 t (p ++ r) o (c ++ [(opc v, 0)]) := by
      refine ⟨a1.fr (fun x j k1 k2 => keep x j (by omega) (by omega)), by rw [(keep 243 11 (by omega) (by omega)).1]; exact a2, a3, a4, by rw [(keep 243 13 (by omega) (by omega)).1]; exact a5, by rw [(keep 243 12 (by omega) (by omega)).1]; exact a6, a7, ?_, ?_, fun z hz => a10 z (by simp; exact Or.inr (List.mem_append.1 hz)), by rw [List.length_append]; omega, ?_, ?_, ?_, ?_, ?_⟩
      · rw [(b6 243 46 (by omega)).1, wI_i, if_pos ⟨rfl, rfl⟩, List.length_append]
      · refine wtk_ext a9.2 (fun x hx => (keep 273 x (by omega) (by omega)).1)
      · rw [b2, List.length_append]; rfl
      · simp only [List.length_append, List.length_cons, List.length_nil]; omega
      · refine rCode_cat (rCode_ext a14 (fun x x1 x2 => ?_)) ⟨b3, fun k => ?_, trivial⟩
        · have := b5 x (by omega)
          rw [wI_i, if_neg (by omega), wI_i, if_neg (by omega)] at this
          exact this
        · exact absurd k (opc_2 v)
      · have f1 : FQ B q m0 (wI m 243 46 (nI (p.length + r.length))) := a15.wI (by simp [WQ, WX11_expression, inW])
        exact f1.em (frX11_emit _ _ _ _ b1) b5 (by omega) (by omega)
      · intro x hx
        have y1 := b5 x (by omega)
        rw [wI_i, if_neg (by omega), wI_i, if_neg (by omega)] at y1
        have y2 := a16 x hx
        exact ⟨y1.1.trans y2.1, y1.2.trans y2.2⟩
    obtain ⟨m', c1, c2⟩ := r_comesOut hB s p r f m1 t o (c ++ [(opc v, 0)]) (by omega) es (fun z hz => hp z (List.mem_cons_of_mem _ hz)) hr
    refine ⟨m', ?_, by rw [show c ++ flu (v :: p) = c ++ [(opc v, 0)] ++ flu p by simp [flu]]; exact c2⟩
    rw [fX11_comesOut_0, a8, if_pos (by rw [L_0]; exact nI_lt (by omega) (by omega)), nI_pred]
    simp only [if_pos bi, ci, nm_ap]
    rw [cell, if_neg (show ¬ nI v = 6 from vne 6 (by omega) hv.1)]
    have out : fX11_comesOut_j42_0 (fun zm => fX11_comesOut_0 s (fun μ7 => some μ7) f zm) (fun μ7 => some μ7) s (nI v) m = some m' := by
      unfold fX11_comesOut_j42_0
      rw [a8, nI_pred, nm_ap]
      rcases vo with e | e | e | e | e
      · exact absurd e hv.1
      · subst e; rw [if_pos (by rfl), show fX11_emit 2 0 _ = some m1 from b1, bind_s]; exact c1
      · subst e; rw [if_neg (by decide), if_pos (by rfl), show fX11_emit 3 0 _ = some m1 from b1, bind_s]; exact c1
      · subst e; rw [if_neg (by decide), if_neg (by decide), if_pos (by rfl), show fX11_emit 4 0 _ = some m1 from b1, bind_s]; exact c1
      · subst e; rw [if_neg (by decide), if_neg (by decide), if_neg (by decide), show fX11_emit 5 0 _ = some m1 from b1, bind_s]; exact c1
    by_cases s0 : s = 0
    · rw [if_pos s0]; exact out
    · have hn : v ≠ 8 ∧ v ≠ 9 := by
        rcases hv.2 with z | z
        · exact absurd z s0
        · exact z
      rw [if_neg s0, if_neg (show ¬ nI v = 8 from vne 8 (by omega) hn.1), if_neg (show ¬ nI v = 9 from vne 9 (by omega) hn.2)]; exact out
