/-! ===== the reference reads a term: products, sums, brackets ===== -/
theorem opc_kR : ∀ k, k < 34 → (k = 6 ∨ k = 7 ∨ k = 8 ∨ k = 9) → opc (kR k) = k - 4 := by decide +kernel
theorem r_ops {K V : Nat → Nat} {N : Nat → List Nat} {P : Nat → Nat} {B : Nat} {m0 : Mem} {q e s D : Nat} {U : Nat → PR Cd} (hB : B + 400 < 840) (he : e ≤ 6) (hs : s = 6 ∨ s = 8) (hK : ∀ t, K t < 34) (gU : gdP K D U)
    (hU : ∀ n f m t w o c, rES K V N P B m0 q 0 m t w o c → w.length ≤ 3 * o + (if s = 6 then 1 else 2) → o + e = 6 → e + 1 < f → 1000 ≤ n + t → (∃ x r, w = x :: r ∧ ((s = 6 ∧ (x = 8 ∨ x = 9)) ∨ s = 8)) →
      (∀ cu t', U t = .ok (cu, t') → ∃ g n' m' p e', EA n f m = EB n' g m' ∧ 4096 ≤ g + e ∧ 1000 ≤ n' + t' ∧ rES K V N P B m0 q 0 m' t' (p ++ w) o (c ++ e') ∧ cu = e' ++ flu p ∧ (∀ v, v ∈ p → v = 10 ∨ v = 15) ∧ (s = 6 → K t' ≠ 8 ∧ K t' ≠ 9) ∧ p.length ≤ (if s = 6 then 1 else 0)) ∧ (∀ fl t', U t = .error (fl, t') → rFl P B q m0 (EA n f m) fl t')) :
    ∀ f n g m t p w o c e' , 400 < t + f → 4096 ≤ g + e → 1000 ≤ n + t → rES K V N P B m0 q 0 m t (p ++ w) o (c ++ e') → (∀ v, v ∈ p → (v = 10 ∨ v = 15) ∨ (s = 6 ∧ (v = 8 ∨ v = 9))) → p.length ≤ (if s = 6 then 2 else 1) → (s = 6 → K t ≠ 8 ∧ K t ≠ 9) → (w = [] ∨ ∃ x r, w = x :: r ∧ (x = 6 ∨ (s ≠ 6 ∧ (x = 8 ∨ x = 9)))) → w.length ≤ 3 * o + (if s = 6 then 0 else 1) → o + e = 6 →
      (∀ cu t', opsP K s U f (e' ++ flu p) t = .ok (cu, t') → ∃ g' n' m' p' e'', EB n g m = EB n' g' m' ∧ 4096 ≤ g' + e ∧ 1000 ≤ n' + t' ∧ rES K V N P B m0 q 0 m' t' (p' ++ w) o (c ++ e'') ∧ cu = e'' ++ flu p' ∧ pend K s p' t') ∧ (∀ fl t', opsP K s U f (e' ++ flu p) t = .error (fl, t') → rFl P B q m0 (EB n g m) fl t') := by
  intro f
  induction f with
  | zero => intro n g m t p w o c e' hf _ _ h; have := h.2.2.1; omega
  | succ f ih =>
    intro n g m t p w o c e' hf hg hn h hp hpl hk8 hw hwl ho
    have t4 := h.2.2.1
    obtain ⟨g0, rfl⟩ : ∃ g0, g = g0 + 1 := ⟨g - 1, by omega⟩
    rw [opsP]
    by_cases k : K t = s ∨ K t = s + 1
    · rw [if_pos k]
      have wl20 : w.length ≤ 20 := by
        have : (if s = 6 then 0 else 1) ≤ 1 := by split <;> omega
        omega
      obtain ⟨s1, s2⟩ := EB_sign (n := n) (g := g0) hB hs hK k h hp hw wl20 (by omega)
      have ek : tkP K (K t) t = if t < 400 then .ok ((), t + 1) else .error (2, t) := by unfold tkP; rw [if_pos rfl]
      by_cases lt : t < 400
      · rw [ek, if_pos lt]
        show (∀ cu t', (pb (U (t + 1)) fun c2 t2 => opsP K s U f (e' ++ flu p ++ (c2 ++ [(K t - 4, 0)])) t2) = .ok (cu, t') → _) ∧ (∀ fl t', (pb (U (t + 1)) fun c2 t2 => opsP K s U f (e' ++ flu p ++ (c2 ++ [(K t - 4, 0)])) t2) = .error (fl, t') → _)
        obtain ⟨m1, x1, x2⟩ := s1 lt
        have kv := opc_kR (K t) (hK t) (by omega)
        have ka := kR_a (K t) (hK t)
        obtain ⟨o1, o2⟩ := hU (n - 1) FU m1 (t + 1) (kR (K t) :: w) o (c ++ e' ++ flu p) x2 (by
            rw [List.length_cons]
            rcases hs with z | z
            · subst z; rw [if_pos rfl] at hwl ⊢; omega
            · subst z; rw [if_neg (by omega)] at hwl ⊢; omega) ho (by unfold FU; omega) (by omega) ⟨_, _, rfl, (by
            rcases hs with z | z
            · refine Or.inl ⟨z, ?_⟩
              rw [ka.2.2.1, ka.2.2.2.1]; omega
            · exact Or.inr z)⟩
        cases es : U (t + 1) with
        | error z =>
          obtain ⟨fl0, t0⟩ := z
          refine ⟨fun cu t' e => (by cases e), fun fl t' e => ?_⟩
          cases e
          obtain ⟨m', y1, y2⟩ := o2 fl0 t0 es
          exact ⟨m', by rw [x1]; exact y1, y2⟩
        | ok z =>
          obtain ⟨c2, t2⟩ := z
          obtain ⟨g', n', m', p2, e2, y1, y2, y3, y4, y5, y6, y7, y8⟩ := o1 c2 t2 es
          have gt := ((gU (t + 1) (by omega)).1 c2 t2 es).1
          have fl2 : flu (p2 ++ [kR (K t)]) = flu p2 ++ [(K t - 4, 0)] := by unfold flu; rw [List.map_append]; simp [kv]
          have acc : e' ++ flu p ++ (c2 ++ [(K t - 4, 0)]) = (e' ++ flu p ++ e2) ++ flu (p2 ++ [kR (K t)]) := by rw [y5, fl2]; simp [List.append_assoc]
          have st : rES K V N P B m0 q 0 m' t2 ((p2 ++ [kR (K t)]) ++ w) o (c ++ (e' ++ flu p ++ e2)) := by
            rw [List.append_assoc, List.singleton_append, show c ++ (e' ++ flu p ++ e2) = c ++ e' ++ flu p ++ e2 by simp [List.append_assoc]]
            exact y4
          have pk : kR (K t) = 8 ∨ kR (K t) = 9 ∨ kR (K t) = 10 ∨ kR (K t) = 15 := by
            rw [ka.2.2.1, ka.2.2.2.1, ka.2.2.2.2.1, ka.2.2.2.2.2]; omega
          have pk6 : s = 8 → kR (K t) = 10 ∨ kR (K t) = 15 := by
            intro z
            rw [ka.2.2.2.2.1, ka.2.2.2.2.2]; omega
          obtain ⟨r1, r2⟩ := ih n' g' m' t2 (p2 ++ [kR (K t)]) w o c (e' ++ flu p ++ e2) (by omega) y2 y3 st (by
              intro v hv
              rcases List.mem_append.1 hv with z | z
              · exact Or.inl (y6 v z)
              · rw [List.mem_singleton.1 z]
                rcases hs with y | y
                · rcases pk with x | x | x | x
                  · exact Or.inr ⟨y, Or.inl x⟩
                  · exact Or.inr ⟨y, Or.inr x⟩
                  · exact Or.inl (Or.inl x)
                  · exact Or.inl (Or.inr x)
                · exact Or.inl (pk6 y)) (by
              rw [List.length_append]
              rcases hs with y | y
              · subst y; rw [if_pos rfl] at y8 ⊢; simp only [List.length_cons, List.length_nil]; omega
              · subst y; rw [if_neg (by omega)] at y8 ⊢; simp only [List.length_cons, List.length_nil]; omega) y7 hw hwl ho
          rw [← acc] at r1 r2
          refine ⟨fun cu t' e => ?_, fun fl t' e => ?_⟩
          · obtain ⟨g'', n'', m'', p'', e'', z1, z2⟩ := r1 cu t' e
            exact ⟨g'', n'', m'', p'', e'', x1.trans (y1.trans z1), z2⟩
          · obtain ⟨m'', z1, z2⟩ := r2 fl t' e
            exact ⟨m'', by rw [x1, y1]; exact z1, z2⟩
      · rw [ek, if_neg lt]
        refine ⟨fun cu t' e => (by cases e), fun fl t' e => ?_⟩
        cases e
        exact s2 (by omega)
    · rw [if_neg k]
      refine ⟨fun cu t' e => ?_, fun fl t' e => (by cases e)⟩
      cases e
      refine ⟨g0 + 1, n, m, p, e', rfl, hg, hn, h, rfl, hp, ?_, ?_, ?_, hpl⟩
      · rcases hs with z | z
        · exact (hk8 z).1
        · omega
      · rcases hs with z | z
        · exact (hk8 z).2
        · omega
      · intro z
        omega
theorem r_pro {K V : Nat → Nat} {N : Nat → List Nat} {P : Nat → Nat} {B : Nat} {m0 : Mem} {q e D : Nat} {U : Nat → PR Cd} (hB : B + 400 < 840) (he : e ≤ 6) (hK : ∀ t, K t < 34) (gU : gdP K D U) (hU : rU K V N P B m0 q e U) : rPp K V N P B m0 q e 8 (proP K U) := by
  intro n f m t w o c h hl ho hf hn hw
  rw [if_neg (by omega)] at hl
  have t4 := h.2.2.1
  obtain ⟨o1, o2⟩ := hU n f m t w o c h (by omega) ho hf hn
  unfold proP
  cases es : U t with
  | error z =>
    obtain ⟨fl0, t0⟩ := z
    refine ⟨fun cu t' e => (by cases e), fun fl t' e => ?_⟩
    cases e
    exact o2 fl0 t0 es
  | ok z =>
    obtain ⟨c2, t2⟩ := z
    obtain ⟨g', n', m', y1, y2, y3, y4⟩ := o1 c2 t2 es
    have gt := ((gU t t4).1 c2 t2 es).1
    obtain ⟨r1, r2⟩ := r_ops (s := 8) hB he (Or.inr rfl) hK gU (by
        intro n f m t w o c a1 a2 a3 a4 a5 _
        rw [if_neg (by omega)] at a2
        obtain ⟨b1, b2⟩ := hU n f m t w o c a1 a2 a3 a4 a5
        refine ⟨fun cu t' e => ?_, b2⟩
        obtain ⟨g, n', m', d1, d2, d3, d4⟩ := b1 cu t' e
        exact ⟨g, n', m', [], cu, d1, d2, d3, d4, by simp [flu], fun v hv => (by simp at hv), fun z => (by omega), by simp⟩) 401 n' g' m' t2 [] w o c c2 (by omega) y2 y3 y4 (fun v hv => (by simp at hv)) (by simp) (fun z => by omega) hw (by rw [if_neg (by omega)]; exact hl) ho
    rw [show c2 ++ flu [] = c2 by simp [flu]] at r1 r2
    refine ⟨fun cu t' e => ?_, fun fl t' e => ?_⟩
    · obtain ⟨g'', n'', m'', p'', e'', z1, z2⟩ := r1 cu t' e
      exact ⟨g'', n'', m'', p'', e'', y1.trans z1, z2⟩
    · obtain ⟨m'', z1, z2⟩ := r2 fl t' e
      exact ⟨m'', by rw [y1]; exact z1, z2⟩
theorem r_sum {K V : Nat → Nat} {N : Nat → List Nat} {P : Nat → Nat} {B : Nat} {m0 : Mem} {q e D : Nat} {U : Nat → PR Cd} (hB : B + 400 < 840) (he : e ≤ 6) (hK : ∀ t, K t < 34) (gP : gdP K D (proP K U)) (hP : rPp K V N P B m0 q e 8 (proP K U)) : rPp K V N P B m0 q e 6 (sumP K U) := by
  intro n f m t w o c h hl ho hf hn hw
  rw [if_pos rfl] at hl
  have t4 := h.2.2.1
  obtain ⟨o1, o2⟩ := hP n f m t w o c h (by rw [if_neg (by omega)]; omega) ho hf hn (by
    rcases hw with z | ⟨x, r, z, y⟩
    · exact Or.inl z
    · refine Or.inr ⟨x, r, z, ?_⟩
      rcases y with y | y
      · exact Or.inl y
      · exact absurd rfl y.1)
  unfold sumP
  cases es : proP K U t with
  | error z =>
    obtain ⟨fl0, t0⟩ := z
    refine ⟨fun cu t' e => (by cases e), fun fl t' e => ?_⟩
    cases e
    exact o2 fl0 t0 es
  | ok z =>
    obtain ⟨c2, t2⟩ := z
    obtain ⟨g', n', m', p1, e1, y1, y2, y3, y4, y5, y6⟩ := o1 c2 t2 es
    have gt := ((gP t t4).1 c2 t2 es).1
    obtain ⟨q1, q2, q3, q4, q5⟩ := y6
    rw [if_neg (by omega)] at q5
    obtain ⟨r1, r2⟩ := r_ops (s := 6) hB he (Or.inl rfl) hK gP (by
        intro n f m t w o c a1 a2 a3 a4 a5 ⟨x, r, a6, a7⟩
        rw [if_pos rfl] at a2
        obtain ⟨b1, b2⟩ := hP n f m t w o c a1 (by rw [if_neg (by omega)]; exact a2) a3 a4 a5 (Or.inr ⟨x, r, a6, Or.inr ⟨by omega, (by
          rcases a7 with z | z
          · exact z.2
          · omega)⟩⟩)
        refine ⟨fun cu t' e => ?_, b2⟩
        obtain ⟨g, n', m', p, e', d1, d2, d3, d4, d5, d6⟩ := b1 cu t' e
        obtain ⟨u1, u2, u3, u4, u5⟩ := d6
        rw [if_neg (by omega)] at u5
        refine ⟨g, n', m', p, e', d1, d2, d3, d4, d5, ?_, fun _ => ⟨u2, u3⟩, by rw [if_pos rfl]; exact u5⟩
        intro v hv
        rcases u1 v hv with z | z
        · exact z
        · omega) 401 n' g' m' t2 p1 w o c e1 (by omega) y2 y3 y4 (by
        intro v hv
        rcases q1 v hv with z | z
        · exact Or.inl z
        · omega) (by rw [if_pos rfl]; omega) (fun _ => ⟨q2, q3⟩) hw (by rw [if_pos rfl]; exact hl) ho
    rw [← y5] at r1 r2
    refine ⟨fun cu t' e => ?_, fun fl t' e => ?_⟩
    · obtain ⟨g'', n'', m'', p'', e'', z1, z2⟩ := r1 cu t' e
      exact ⟨g'', n'', m'', p'', e'', y1.trans z1, z2⟩
    · obtain ⟨m'', z1, z2⟩ := r2 fl t' e
      exact ⟨m'', by rw [y1]; exact z1, z2⟩
