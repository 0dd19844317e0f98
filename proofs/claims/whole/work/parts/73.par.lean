/-! ===== the grammar of a term ===== -/
abbrev PR (α : Type) : Type := Except (Nat × Nat) (α × Nat)
def pb {α β : Type} (x : PR α) (f : α → Nat → PR β) : PR β := match x with
  | .error e => .error e
  | .ok q => f q.1 q.2
def tkP (K : Nat → Nat) (k t : Nat) : PR Unit := if K t = k then (if t < 400 then .ok ((), t + 1) else .error (2, t)) else .error (1, t)
abbrev Cd : Type := List Ins
def uniP (K V : Nat → Nat) (inner : Option (Nat → PR Cd)) (t : Nat) : PR Cd :=
  if K t = 11 then (match inner with
    | none => .error (2, t)
    | some s => pb (tkP K 11 t) fun _ t1 => pb (s t1) fun c t2 => pb (tkP K 12 t2) fun _ t3 => .ok (c, t3))
  else if 25 ≤ K t ∧ K t ≤ 33 then pb (tkP K (K t) t) fun _ t1 => .ok ([(1, K t - 25)], t1)
  else pb (tkP K 3 t) fun _ t1 => .ok ([(0, V t)], t1)
def opsP (K : Nat → Nat) (s : Nat) (U : Nat → PR Cd) : Nat → Cd → Nat → PR Cd
  | 0, _, t => .error (9, t)
  | f + 1, c, t => if K t = s ∨ K t = s + 1 then pb (tkP K (K t) t) fun _ t1 => pb (U t1) fun c2 t2 => opsP K s U f (c ++ (c2 ++ [(K t - 4, 0)])) t2 else .ok (c, t)
def proP (K : Nat → Nat) (U : Nat → PR Cd) (t : Nat) : PR Cd := pb (U t) fun c t1 => opsP K 8 U 401 c t1
def sumP (K : Nat → Nat) (U : Nat → PR Cd) (t : Nat) : PR Cd := pb (proP K U t) fun c t1 => opsP K 6 (proP K U) 401 c t1
def expP (K V : Nat → Nat) : Nat → Nat → PR Cd
  | 0, t => sumP K (uniP K V none) t
  | e + 1, t => sumP K (uniP K V (some (expP K V e))) t
/-- what every part of it keeps: it goes on, each token makes one step at most, the depth is held -/
def gOk (K : Nat → Nat) (D t : Nat) (c : Cd) (t' : Nat) : Prop := t < t' ∧ t' ≤ 400 ∧ c.length ≤ t' - t ∧ (∀ j, t ≤ j → j < t' → 2 ≤ K j) ∧ ∀ d, d ≤ D → dpt c d = some (d + 1)
def gEr (K : Nat → Nat) (t f t' : Nat) : Prop := t ≤ t' ∧ t' ≤ 400 ∧ (∀ j, t ≤ j → j < t' → 2 ≤ K j) ∧ (f = 1 ∨ f = 2)
def gdP (K : Nat → Nat) (D : Nat) (U : Nat → PR Cd) : Prop := ∀ t, t ≤ 400 → (∀ c t', U t = .ok (c, t') → gOk K D t c t') ∧ (∀ f t', U t = .error (f, t') → gEr K t f t')
theorem pb_ok {α β : Type} {x : PR α} {f : α → Nat → PR β} {r : β × Nat} (h : pb x f = .ok r) : ∃ a t, x = .ok (a, t) ∧ f a t = .ok r := by
  unfold pb at h
  cases x with
  | error e => cases h
  | ok q => exact ⟨q.1, q.2, rfl, h⟩
theorem pb_er {α β : Type} {x : PR α} {f : α → Nat → PR β} {e : Nat × Nat} (h : pb x f = .error e) : x = .error e ∨ ∃ a t, x = .ok (a, t) ∧ f a t = .error e := by
  unfold pb at h
  cases x with
  | error e2 => exact Or.inl (by cases h; rfl)
  | ok q => exact Or.inr ⟨q.1, q.2, rfl, h⟩
theorem tk_ok {K : Nat → Nat} {k t : Nat} {u : Unit} {t' : Nat} (h : tkP K k t = .ok (u, t')) : K t = k ∧ t < 400 ∧ t' = t + 1 := by
  unfold tkP at h
  by_cases c : K t = k
  · rw [if_pos c] at h
    by_cases d : t < 400
    · rw [if_pos d] at h
      cases h
      exact ⟨c, d, rfl⟩
    · rw [if_neg d] at h; cases h
  · rw [if_neg c] at h; cases h
theorem tk_er {K : Nat → Nat} {k t f t' : Nat} (h : tkP K k t = .error (f, t')) : t' = t ∧ (f = 1 ∨ f = 2) := by
  unfold tkP at h
  by_cases c : K t = k
  · rw [if_pos c] at h
    by_cases d : t < 400
    · rw [if_pos d] at h; cases h
    · rw [if_neg d] at h; cases h; exact ⟨rfl, Or.inr rfl⟩
  · rw [if_neg c] at h; cases h; exact ⟨rfl, Or.inl rfl⟩
theorem dpt_app : ∀ (c c2 : Cd) (d : Nat), dpt (c ++ c2) d = (dpt c d).bind (dpt c2)
  | [], c2, d => rfl
  | x :: c, c2, d => by
    have ih := fun d => dpt_app c c2 d
    rw [List.cons_append, dpt, dpt]
    split
    · split
      · exact ih _
      · rfl
    · split
      · split
        · exact ih _
        · rfl
      · split
        · exact ih _
        · rfl
theorem gd_uni {K V : Nat → Nat} {inner : Option (Nat → PR Cd)} {D : Nat} (hD : D ≤ 14) (h : ∀ s, inner = some s → gdP K D s) : gdP K D (uniP K V inner) := by
  intro t ht
  have leaf : ∀ (k : Nat) (x : Ins), 2 ≤ k → (∀ d, d ≤ D → dpt [x] d = some (d + 1)) → (∀ c t', (pb (tkP K k t) fun _ t1 => (.ok ([x], t1) : PR Cd)) = .ok (c, t') → gOk K D t c t') ∧ (∀ f t', (pb (tkP K k t) fun _ t1 => (.ok ([x], t1) : PR Cd)) = .error (f, t') → gEr K t f t') := by
    intro k x k2 hx
    constructor
    · intro c t' e
      obtain ⟨u, t1, e1, e2⟩ := pb_ok e
      obtain ⟨a, b, rfl⟩ := tk_ok e1
      cases e2
      refine ⟨by omega, by omega, by simp, fun j j1 j2 => by rw [show j = t by omega]; omega, hx⟩
    · intro f t' e
      rcases pb_er e with q | ⟨u, t1, e1, e2⟩
      · obtain ⟨rfl, a⟩ := tk_er q
        exact ⟨Nat.le_refl _, ht, fun j j1 j2 => by omega, a⟩
      · cases e2
  unfold uniP
  by_cases c1 : K t = 11
  · rw [if_pos c1]
    cases inner with
    | none =>
      constructor
      · intro c t' e; cases e
      · intro f t' e
        cases e
        exact ⟨Nat.le_refl _, ht, fun j j1 j2 => by omega, Or.inr rfl⟩
    | some s =>
      have hs := h s rfl
      constructor
      · intro c t' e
        obtain ⟨u, t1, e1, e2⟩ := pb_ok e
        obtain ⟨a, b, rfl⟩ := tk_ok e1
        obtain ⟨c2, t2, e3, e4⟩ := pb_ok e2
        obtain ⟨u3, t3, e5, e6⟩ := pb_ok e4
        obtain ⟨a5, b5, rfl⟩ := tk_ok e5
        cases e6
        obtain ⟨g1, g2, g3, g4, g5⟩ := (hs (t + 1) (by omega)).1 c t2 e3
        refine ⟨by omega, by omega, by omega, ?_, g5⟩
        intro j j1 j2
        rcases (show j = t ∨ (t + 1 ≤ j ∧ j < t2) ∨ j = t2 by omega) with q | q | q
        · rw [q]; omega
        · exact g4 j q.1 q.2
        · rw [q]; omega
      · intro f t' e
        rcases pb_er e with q | ⟨u, t1, e1, e2⟩
        · obtain ⟨rfl, a⟩ := tk_er q
          exact ⟨Nat.le_refl _, ht, fun j j1 j2 => by omega, a⟩
        · obtain ⟨a, b, rfl⟩ := tk_ok e1
          rcases pb_er e2 with q | ⟨c2, t2, e3, e4⟩
          · obtain ⟨g1, g2, g3, g4⟩ := (hs (t + 1) (by omega)).2 f t' q
            refine ⟨by omega, g2, ?_, g4⟩
            intro j j1 j2
            rcases (show j = t ∨ t + 1 ≤ j by omega) with q | q
            · rw [q]; omega
            · exact g3 j q j2
          · obtain ⟨g1, g2, g3, g4, g5⟩ := (hs (t + 1) (by omega)).1 c2 t2 e3
            rcases pb_er e4 with q | ⟨u3, t3, e5, e6⟩
            · obtain ⟨rfl, a⟩ := tk_er q
              refine ⟨by omega, g2, ?_, a⟩
              intro j j1 j2
              rcases (show j = t ∨ t + 1 ≤ j by omega) with q | q
              · rw [q]; omega
              · exact g4 j q j2
            · cases e6
  · rw [if_neg c1]
    by_cases c2 : 25 ≤ K t ∧ K t ≤ 33
    · rw [if_pos c2]
      refine leaf (K t) (1, K t - 25) (by omega) ?_
      intro d hd
      simp [dpt]; omega
    · rw [if_neg c2]
      refine leaf 3 (0, V t) (by omega) ?_
      intro d hd
      simp [dpt]; omega
theorem gd_ops {K : Nat → Nat} {s D : Nat} {U : Nat → PR Cd} (hs : s = 6 ∨ s = 8) (hU : gdP K (D + 1) U) (t0 : Nat) : ∀ f c t, 400 < t + f → gOk K D t0 c t → (∀ c' t', opsP K s U f c t = .ok (c', t') → gOk K D t0 c' t' ∧ t ≤ t') ∧ (∀ g t', opsP K s U f c t = .error (g, t') → gEr K t0 g t' ∧ t ≤ t')
  | 0, c, t, hf, hc => by have := hc.2.1; omega
  | f + 1, c, t, hf, hc => by
    obtain ⟨h1, h2, h3, h4, h5⟩ := hc
    rw [opsP]
    by_cases k : K t = s ∨ K t = s + 1
    · rw [if_pos k]
      have step : ∀ c2 t2, t < 400 → U (t + 1) = .ok (c2, t2) → gOk K D t0 (c ++ (c2 ++ [(K t - 4, 0)])) t2 := by
        intro c2 t2 lt e
        obtain ⟨g1, g2, g3, g4, g5⟩ := (hU (t + 1) (by omega)).1 c2 t2 e
        refine ⟨by omega, g2, ?_, ?_, ?_⟩
        · simp only [List.length_append, List.length_cons, List.length_nil]; omega
        · intro j j1 j2
          rcases (show j < t ∨ j = t ∨ t + 1 ≤ j by omega) with q | q | q
          · exact h4 j j1 q
          · rw [q]; omega
          · exact g4 j q j2
        · intro d hd
          rw [dpt_app, h5 d hd]
          show dpt (c2 ++ [(K t - 4, 0)]) (d + 1) = _
          rw [dpt_app, g5 (d + 1) (by omega)]
          show dpt [(K t - 4, 0)] (d + 1 + 1) = _
          simp only [dpt]
          rw [if_neg (by omega), if_neg (by omega), if_pos ⟨by omega, by omega⟩]
          rfl
      constructor
      · intro c' t' e
        obtain ⟨u, t1, e1, e2⟩ := pb_ok e
        obtain ⟨a, b, rfl⟩ := tk_ok e1
        obtain ⟨c2, t2, e3, e4⟩ := pb_ok e2
        have st := step c2 t2 b e3
        have g1 := ((hU (t + 1) (by omega)).1 c2 t2 e3).1
        have r := (gd_ops hs hU t0 f _ t2 (by omega) st).1 c' t' e4
        exact ⟨r.1, by omega⟩
      · intro g t' e
        rcases pb_er e with q | ⟨u, t1, e1, e2⟩
        · obtain ⟨rfl, a⟩ := tk_er q
          exact ⟨⟨by omega, h2, h4, a⟩, Nat.le_refl _⟩
        · obtain ⟨a, b, rfl⟩ := tk_ok e1
          rcases pb_er e2 with q | ⟨c2, t2, e3, e4⟩
          · obtain ⟨g1, g2, g3, g4⟩ := (hU (t + 1) (by omega)).2 g t' q
            refine ⟨⟨by omega, g2, ?_, g4⟩, by omega⟩
            intro j j1 j2
            rcases (show j < t ∨ j = t ∨ t + 1 ≤ j by omega) with q | q | q
            · exact h4 j j1 q
            · rw [q]; omega
            · exact g3 j q j2
          · have st := step c2 t2 b e3
            have g1 := ((hU (t + 1) (by omega)).1 c2 t2 e3).1
            have r := (gd_ops hs hU t0 f _ t2 (by omega) st).2 g t' e4
            exact ⟨r.1, by omega⟩
    · rw [if_neg k]
      constructor
      · intro c' t' e
        cases e
        exact ⟨⟨h1, h2, h3, h4, h5⟩, Nat.le_refl _⟩
      · intro g t' e; cases e
theorem gOk.mono {K : Nat → Nat} {D D' t : Nat} {c : Cd} {t' : Nat} (h : gOk K D' t c t') (k : D ≤ D') : gOk K D t c t' := ⟨h.1, h.2.1, h.2.2.1, h.2.2.2.1, fun d hd => h.2.2.2.2 d (by omega)⟩
theorem gd_pro {K : Nat → Nat} {D : Nat} {U : Nat → PR Cd} (hU : gdP K (D + 1) U) : gdP K D (proP K U) := by
  intro t ht
  constructor
  · intro c t' e
    obtain ⟨c1, t1, e1, e2⟩ := pb_ok e
    have g := (hU t ht).1 c1 t1 e1
    have := g.1
    exact ((gd_ops (Or.inr rfl) hU t 401 c1 t1 (by omega) (g.mono (by omega))).1 c t' e2).1
  · intro f t' e
    rcases pb_er e with q | ⟨c1, t1, e1, e2⟩
    · exact (hU t ht).2 f t' q
    · have g := (hU t ht).1 c1 t1 e1
      have := g.1
      exact ((gd_ops (Or.inr rfl) hU t 401 c1 t1 (by omega) (g.mono (by omega))).2 f t' e2).1
theorem gd_sum {K : Nat → Nat} {D : Nat} {U : Nat → PR Cd} (hU : gdP K (D + 2) U) : gdP K D (sumP K U) := by
  have hP : gdP K (D + 1) (proP K U) := gd_pro hU
  intro t ht
  constructor
  · intro c t' e
    obtain ⟨c1, t1, e1, e2⟩ := pb_ok e
    have g := (hP t ht).1 c1 t1 e1
    have := g.1
    exact ((gd_ops (Or.inl rfl) hP t 401 c1 t1 (by omega) (g.mono (by omega))).1 c t' e2).1
  · intro f t' e
    rcases pb_er e with q | ⟨c1, t1, e1, e2⟩
    · exact (hP t ht).2 f t' q
    · have g := (hP t ht).1 c1 t1 e1
      have := g.1
      exact ((gd_ops (Or.inl rfl) hP t 401 c1 t1 (by omega) (g.mono (by omega))).2 f t' e2).1
theorem gd_exp {K V : Nat → Nat} : ∀ e, e ≤ 6 → gdP K (2 * (6 - e)) (expP K V e)
  | 0, _ => by
    have h : gdP K (2 * (6 - 0) + 2) (uniP K V none) := gd_uni (by omega) (by intro s q; cases q)
    exact gd_sum h
  | e + 1, he => by
    have ih := gd_exp (K := K) (V := V) e (by omega)
    have h : gdP K (2 * (6 - (e + 1)) + 2) (uniP K V (some (expP K V e))) := gd_uni (by omega) (by
      intro s q
      cases q
      rw [show 2 * (6 - (e + 1)) + 2 = 2 * (6 - e) by omega]
      exact ih)
    exact gd_sum h
