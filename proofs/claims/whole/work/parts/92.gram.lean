/-! ===== the grammar goes on, and stops within the row ===== -/
def gA {α : Type} (K : Nat → Nat) (t : Nat) (x : PR α) : Prop :=
  (∀ a t', x = .ok (a, t') → t ≤ t' ∧ t' ≤ 400 ∧ ∀ j, t ≤ j → j < t' → 2 ≤ K j) ∧ (∀ f t', x = .error (f, t') → t ≤ t' ∧ t' ≤ 400 ∧ (∀ j, t ≤ j → j < t' → 2 ≤ K j) ∧ (f = 1 ∨ f = 2))
theorem gA_ok {α : Type} {K : Nat → Nat} {t : Nat} {a : α} (h : t ≤ 400) : gA K t (.ok (a, t) : PR α) :=
  ⟨fun a t' z => by cases z; exact ⟨Nat.le_refl _, h, fun j h1 h2 => absurd h2 (by omega)⟩, fun f t' z => by cases z⟩
theorem gA_er {α : Type} {K : Nat → Nat} {t f : Nat} (h : t ≤ 400) (hf : f = 1 ∨ f = 2) : gA K t (.error (f, t) : PR α) :=
  ⟨fun a t' z => (by cases z), fun g t' z => by cases z; exact ⟨Nat.le_refl _, h, fun j h1 h2 => absurd h2 (by omega), hf⟩⟩
theorem gA_b {α β : Type} {K : Nat → Nat} {t : Nat} {x : PR α} {f : α → Nat → PR β} (h : gA K t x) (k : ∀ a t1, x = .ok (a, t1) → t1 ≤ 400 → gA K t1 (f a t1)) : gA K t (pb x f) := by
  refine ⟨fun b t' z => ?_, fun g t' z => ?_⟩
  · obtain ⟨a, t1, e1, e2⟩ := pb_ok z
    obtain ⟨h1, h2, h3⟩ := h.1 a t1 e1
    obtain ⟨k1, k2, k3⟩ := (k a t1 e1 h2).1 b t' e2
    refine ⟨by omega, k2, fun j j1 j2 => ?_⟩
    by_cases c : j < t1
    · exact h3 j j1 c
    · exact k3 j (by omega) j2
  · rcases pb_er z with y | ⟨a, t1, e1, e2⟩
    · exact h.2 g t' y
    · obtain ⟨h1, h2, h3⟩ := h.1 a t1 e1
      obtain ⟨k1, k2, k3, k4⟩ := (k a t1 e1 h2).2 g t' e2
      refine ⟨by omega, k2, fun j j1 j2 => ?_, k4⟩
      by_cases c : j < t1
      · exact h3 j j1 c
      · exact k3 j (by omega) j2
theorem gA_tk {K : Nat → Nat} {k t : Nat} (h : t ≤ 400) (hk : 2 ≤ k) : gA K t (tkP K k t) := by
  refine ⟨fun u t' z => ?_, fun f t' z => ?_⟩
  · obtain ⟨h1, h2, rfl⟩ := tk_ok z
    refine ⟨by omega, by omega, fun j j1 j2 => ?_⟩
    rw [show j = t by omega, h1]; exact hk
  · obtain ⟨rfl, h2⟩ := tk_er z
    exact ⟨Nat.le_refl _, h, fun j h1 h2 => absurd h2 (by omega), h2⟩
theorem gA_exp {K V : Nat → Nat} {t : Nat} (h : t ≤ 400) : gA K t (expP K V 6 t) := by
  have g := gd_exp (K := K) (V := V) 6 (by omega) t h
  refine ⟨fun c t' z => ?_, fun f t' z => ?_⟩
  · obtain ⟨a1, a2, a3, a4, a5⟩ := g.1 c t' z
    exact ⟨by omega, a2, a4⟩
  · exact g.2 f t' z
theorem gA_las {K V : Nat → Nat} {t : Nat} (h : t ≤ 400) : gA K t (lasP K V t) :=
  gA_b (gA_exp h) fun _ _ _ h1 => gA_b (gA_tk h1 (by omega)) fun _ _ _ h2 => gA_ok h2
theorem gA_br {K V : Nat → Nat} {t : Nat} (h : t ≤ 400) : gA K t (brP K V t) :=
  gA_b (gA_tk h (by omega)) fun _ _ _ h1 => gA_b (gA_exp h1) fun _ _ _ h2 => gA_b (gA_tk h2 (by omega)) fun _ _ _ h3 => gA_b (gA_exp h3) fun _ _ _ h4 => gA_b (gA_tk h4 (by omega)) fun _ _ _ h5 => gA_b (gA_exp h5) fun _ _ _ h6 => gA_b (gA_tk h6 (by omega)) fun _ _ _ h7 => gA_ok h7
theorem gA_law {K V : Nat → Nat} : ∀ r {t : Nat}, t ≤ 400 → gA K t (lawL K V r t)
  | 0, t, h => by
    unfold lawL
    by_cases c : K t = 22
    · rw [if_pos c]; exact gA_er h (Or.inr rfl)
    · rw [if_neg c]; exact gA_las h
  | r + 1, t, h => by
    unfold lawL
    by_cases c : K t = 22
    · rw [if_pos c]
      exact gA_b (gA_br h) fun _ _ _ h1 => gA_b (gA_law r h1) fun _ _ _ h2 => gA_ok h2
    · rw [if_neg c]; exact gA_las h
theorem lt_b {β : Type} {K : Nat → Nat} {k t t' : Nat} {f : Unit → Nat → PR β} {b : β} (k1 : ∀ a t1, t1 ≤ 400 → gA K t1 (f a t1)) (z : pb (tkP K k t) f = .ok (b, t')) : t < t' := by
  obtain ⟨a, t1, e1, e2⟩ := pb_ok z
  obtain ⟨h1, h2, rfl⟩ := tk_ok e1
  have := ((k1 a (t + 1) (by omega)).1 b t' e2).1
  omega
theorem gA_name {K : Nat → Nat} {N : Nat → List Nat} {R : Rd} {t : Nat} (h : t ≤ 400) : gA K t (nameP K N R t) := gA_b (gA_tk h (by omega)) fun _ _ _ h1 => gA_ok h1
theorem gA_int {K V : Nat → Nat} {a b : Nat} {R : Rd} {t : Nat} (h : t ≤ 400) : gA K t (intP K V a b R t) := gA_b (gA_tk h (by omega)) fun _ _ _ h1 => gA_ok h1
theorem gA_tel {K V : Nat → Nat} {N : Nat → List Nat} {R : Rd} {t : Nat} (h : t ≤ 400) : gA K t (telP K V N R t) ∧ ∀ R' t', telP K V N R t = .ok (R', t') → t < t' := by
  unfold telP
  by_cases c13 : K t = 13
  · rw [if_pos c13]
    unfold sunP
    by_cases c : R.T.nS < 4
    · rw [if_pos c]
      have q : ∀ (a : Unit) t1, t1 ≤ 400 → gA K t1 (pb (nameP K N R t1) fun R1 t2 => pb (intP K V 1 24 R1 t2) fun R2 t3 => pb (intP K V 0 99 R2 t3) fun R3 t4 => pb (tkP K 4 t4) fun _ t5 => .ok (addS R3 (N (t5 - 4)) (V (t5 - 3)) (V (t5 - 2)), t5)) := fun _ t1 h1 => gA_b (gA_name h1) fun _ _ _ h2 => gA_b (gA_int h2) fun _ _ _ h3 => gA_b (gA_int h3) fun _ _ _ h4 => gA_b (gA_tk h4 (by omega)) fun _ _ _ h5 => gA_ok h5
      exact ⟨gA_b (gA_tk h (by omega)) fun a t1 _ h1 => q a t1 h1, fun R' t' z => lt_b q z⟩
    · rw [if_neg c]; exact ⟨gA_er h (Or.inr rfl), fun R' t' z => by cases z⟩
  rw [if_neg c13]
  by_cases c14 : K t = 14
  · rw [if_pos c14]
    unfold gueP
    by_cases c : R.T.nG < 7
    · rw [if_pos c]
      have q : ∀ (a : Unit) t1, t1 ≤ 400 → gA K t1 (pb (nameP K N R t1) fun R1 t2 => pb (intP K V 0 23 R1 t2) fun R2 t3 => pb (intP K V 1 12 R2 t3) fun R3 t4 => pb (intP K V 0 99 R3 t4) fun R4 t5 => pb (tkP K 4 t5) fun _ t6 => .ok (addG R4 (N (t6 - 5)) (V (t6 - 4)) (V (t6 - 3)) (V (t6 - 2)), t6)) := fun _ t1 h1 => gA_b (gA_name h1) fun _ _ _ h2 => gA_b (gA_int h2) fun _ _ _ h3 => gA_b (gA_int h3) fun _ _ _ h4 => gA_b (gA_int h4) fun _ _ _ h5 => gA_b (gA_tk h5 (by omega)) fun _ _ _ h6 => gA_ok h6
      exact ⟨gA_b (gA_tk h (by omega)) fun a t1 _ h1 => q a t1 h1, fun R' t' z => lt_b q z⟩
    · rw [if_neg c]; exact ⟨gA_er h (Or.inr rfl), fun R' t' z => by cases z⟩
  rw [if_neg c14]
  by_cases c15 : K t = 15
  · rw [if_pos c15]
    unfold foeP
    by_cases c : R.nf < 8
    · rw [if_pos c]
      have q : ∀ (a : Unit) t1, t1 ≤ 400 → gA K t1 (pb (tkP K 2 t1) fun _ t2 => pb (tkP K 2 t2) fun _ t3 => pb (tkP K 4 t3) fun _ t4 => .ok (addF R (N t1) (N t2) t, t4)) := fun _ t1 h1 => gA_b (gA_tk h1 (by omega)) fun _ _ _ h2 => gA_b (gA_tk h2 (by omega)) fun _ _ _ h3 => gA_b (gA_tk h3 (by omega)) fun _ _ _ h4 => gA_ok h4
      exact ⟨gA_b (gA_tk h (by omega)) fun a t1 _ h1 => q a t1 h1, fun R' t' z => lt_b q z⟩
    · rw [if_neg c]; exact ⟨gA_er h (Or.inr rfl), fun R' t' z => by cases z⟩
  rw [if_neg c15]
  by_cases cl : 16 ≤ K t ∧ K t ≤ 19
  · rw [if_pos cl]
    unfold lawP
    rw [pb_assoc]
    have q : ∀ (a : Unit) t1, t1 ≤ 400 → gA K t1 (pb (pb (tkP K 5 t1) fun _ t2 => lawL K V 4 t2) fun l t1 => .ok (setL R (K t - 16) l, t1)) := fun _ t1 h1 => gA_b (gA_b (gA_tk h1 (by omega)) fun _ _ _ h2 => gA_law 4 h2) fun _ _ _ h3 => gA_ok h3
    exact ⟨gA_b (gA_tk h (by omega)) fun a t1 _ h1 => q a t1 h1, fun R' t' z => lt_b q z⟩
  rw [if_neg cl]
  by_cases c20 : K t = 20
  · rw [if_pos c20]
    have q : ∀ (a : Unit) t1, t1 ≤ 400 → gA K t1 (pb (intP K V 1 999 R t1) fun R1 t2 => pb (tkP K 4 t2) fun _ t3 => .ok (setD R1 (V t1), t3)) := fun _ t1 h1 => gA_b (gA_int h1) fun _ _ _ h2 => gA_b (gA_tk h2 (by omega)) fun _ _ _ h3 => gA_ok h3
    exact ⟨gA_b (gA_tk h (by omega)) fun a t1 _ h1 => q a t1 h1, fun R' t' z => lt_b q z⟩
  rw [if_neg c20]
  by_cases c21 : K t = 21
  · rw [if_pos c21]
    have q : ∀ (a : Unit) t1, t1 ≤ 400 → gA K t1 (pb (intP K V 0 9999 R t1) fun R1 t2 => pb (tkP K 4 t2) fun _ t3 => .ok (setE R1 (V t1), t3)) := fun _ t1 h1 => gA_b (gA_int h1) fun _ _ _ h2 => gA_b (gA_tk h2 (by omega)) fun _ _ _ h3 => gA_ok h3
    exact ⟨gA_b (gA_tk h (by omega)) fun a t1 _ h1 => q a t1 h1, fun R' t' z => lt_b q z⟩
  rw [if_neg c21]
  exact ⟨gA_er h (Or.inl rfl), fun R' t' z => by cases z⟩
/-! a law read is a good one -/
theorem ok_exp {K V : Nat → Nat} {t t' : Nat} {c : Cd} (h : t ≤ 400) (z : expP K V 6 t = .ok (c, t')) : okE c := ((gd_exp (K := K) (V := V) 6 (by omega) t h).1 c t' z).2.2.2.2 0 (by omega)
theorem ok_las {K V : Nat → Nat} {t t' : Nat} {l : LawT} (h : t ≤ 400) (z : lasP K V t = .ok (l, t')) : okL l := by
  obtain ⟨c, t1, e1, e2⟩ := pb_ok z
  obtain ⟨u, t2, e3, e4⟩ := pb_ok e2
  cases e4
  exact ⟨fun b hb => absurd hb (by simp), ok_exp h e1⟩
theorem ok_law {K V : Nat → Nat} : ∀ r {t t' : Nat} {l : LawT}, t ≤ 400 → lawL K V r t = .ok (l, t') → okL l
  | 0, t, t', l, h, z => by
    unfold lawL at z
    by_cases c : K t = 22
    · rw [if_pos c] at z; cases z
    · rw [if_neg c] at z; exact ok_las h z
  | r + 1, t, t', l, h, z => by
    unfold lawL at z
    by_cases c : K t = 22
    · rw [if_pos c] at z
      obtain ⟨b, t1, e1, e2⟩ := pb_ok z
      have h1 := ((gA_br h).1 b t1 e1).2.1
      obtain ⟨l0, t2, e3, e4⟩ := pb_ok e2
      cases e4
      have q := ok_law r h1 e3
      refine ⟨fun x hx => ?_, q.2⟩
      rcases List.mem_cons.1 hx with y | y
      · rw [y]
        obtain ⟨u1, s1, f1, f2⟩ := pb_ok e1
        have g1 := ((gA_tk h (by omega)).1 _ _ f1).2.1
        obtain ⟨c1, s2, f3, f4⟩ := pb_ok f2
        have g2 := ((gA_exp g1).1 _ _ f3).2.1
        obtain ⟨u2, s3, f5, f6⟩ := pb_ok f4
        have g3 := ((gA_tk g2 (by omega)).1 _ _ f5).2.1
        obtain ⟨c2, s4, f7, f8⟩ := pb_ok f6
        have g4 := ((gA_exp g3).1 _ _ f7).2.1
        obtain ⟨u3, s5, f9, f10⟩ := pb_ok f8
        have g5 := ((gA_tk g4 (by omega)).1 _ _ f9).2.1
        obtain ⟨c3, s6, f11, f12⟩ := pb_ok f10
        obtain ⟨u4, s7, f13, f14⟩ := pb_ok f12
        cases f14
        exact ⟨ok_exp g1 f3, ok_exp g3 f7, ok_exp g5 f11⟩
      · exact q.1 x y
    · rw [if_neg c] at z; exact ok_las h z
theorem ok_lawP {K V : Nat → Nat} {k t t' : Nat} {l : LawT} (z : lawP K V k t = .ok (l, t')) : okL l := by
  obtain ⟨u1, t1, e1, e2⟩ := pb_ok z
  obtain ⟨u2, t2, e3, e4⟩ := pb_ok e2
  have := tk_ok e3
  exact ok_law 4 (by omega) e4
