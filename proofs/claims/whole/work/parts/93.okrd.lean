/-! ===== what is read without a fault is a good text ===== -/
abbrev okRd (R : Rd) : Prop := (R.lt = none → ∀ s, s < R.T.nS → 1 ≤ R.T.lo s ∧ R.T.lo s ≤ 24 ∧ R.T.wo s ≤ 99) ∧ (R.lt = none → ∀ g, g < R.T.nG → R.T.hr g ≤ 23 ∧ 1 ≤ R.T.hs g ∧ R.T.hs g ≤ 12 ∧ R.T.fe g ≤ 99) ∧ (∀ g o, R.T.fo g o = R.T.fo o g) ∧ (R.lt = none → ∀ g, R.T.fo g g = false) ∧ (R.lt = none → 1 ≤ R.T.de ∧ R.T.de ≤ 999) ∧ (R.lt = none → R.T.se ≤ 9999) ∧ (∀ k, k < 4 → okL (R.T.la k)) ∧ (∀ k, k < 4 → R.T.tl k = false → R.T.la k = dfl k)
theorem okRd.su {R : Rd} (h : okRd R) : R.lt = none → ∀ s, s < R.T.nS → 1 ≤ R.T.lo s ∧ R.T.lo s ≤ 24 ∧ R.T.wo s ≤ 99 := h.1
theorem okRd.gu {R : Rd} (h : okRd R) : R.lt = none → ∀ g, g < R.T.nG → R.T.hr g ≤ 23 ∧ 1 ≤ R.T.hs g ∧ R.T.hs g ≤ 12 ∧ R.T.fe g ≤ 99 := h.2.1
theorem okRd.fs {R : Rd} (h : okRd R) : ∀ g o, R.T.fo g o = R.T.fo o g := h.2.2.1
theorem okRd.fi {R : Rd} (h : okRd R) : R.lt = none → ∀ g, R.T.fo g g = false := h.2.2.2.1
theorem okRd.de {R : Rd} (h : okRd R) : R.lt = none → 1 ≤ R.T.de ∧ R.T.de ≤ 999 := h.2.2.2.2.1
theorem okRd.se {R : Rd} (h : okRd R) : R.lt = none → R.T.se ≤ 9999 := h.2.2.2.2.2.1
theorem okRd.la {R : Rd} (h : okRd R) : ∀ k, k < 4 → okL (R.T.la k) := h.2.2.2.2.2.2.1
theorem okRd.df {R : Rd} (h : okRd R) : ∀ k, k < 4 → R.T.tl k = false → R.T.la k = dfl k := h.2.2.2.2.2.2.2
theorem late_none {l : Option (Nat × Nat)} {c : Bool} {f t : Nat} (h : late l c f t = none) : l = none ∧ c = false := by
  cases l with
  | some x => cases h
  | none =>
    cases c with
    | true => cases h
    | false => exact ⟨rfl, rfl⟩
theorem okRd.set {R : Rd} {l : Option (Nat × Nat)} (h : okRd R) (k : l = none → R.lt = none) : okRd (setLt R l) :=
  ⟨fun e => h.su (k e), fun e => h.gu (k e), h.fs, fun e => h.fi (k e), fun e => h.de (k e), fun e => h.se (k e), h.la, h.df⟩
theorem int_ok {K V : Nat → Nat} {a b t t' : Nat} {R R' : Rd} (z : intP K V a b R t = .ok (R', t')) : R' = setLt R (late R.lt (!inR a b (V t)) 5 t) ∧ t' = t + 1 := by
  obtain ⟨u, t1, e1, e2⟩ := pb_ok z
  obtain ⟨h1, h2, rfl⟩ := tk_ok e1
  cases e2
  exact ⟨rfl, rfl⟩
theorem name_ok {K : Nat → Nat} {N : Nat → List Nat} {t t' : Nat} {R R' : Rd} (z : nameP K N R t = .ok (R', t')) : R' = setLt R (late R.lt (nmd R (N t)) 3 t) ∧ t' = t + 1 := by
  obtain ⟨u, t1, e1, e2⟩ := pb_ok z
  obtain ⟨h1, h2, rfl⟩ := tk_ok e1
  cases e2
  exact ⟨rfl, rfl⟩
theorem inR_t {a b x : Nat} (h : (!inR a b x) = false) : a ≤ x ∧ x ≤ b := by
  unfold inR at h
  by_cases c1 : a ≤ x
  · by_cases c2 : x ≤ b
    · exact ⟨c1, c2⟩
    · rw [decide_eq_false c2, Bool.and_false] at h; cases h
  · rw [decide_eq_false c1, Bool.false_and] at h; cases h
theorem ok_sun {K V : Nat → Nat} {N : Nat → List Nat} {R R' : Rd} {t t' : Nat} (h : okRd R) (z : sunP K V N R t = .ok (R', t')) : okRd R' := by
  unfold sunP at z
  by_cases c : R.T.nS < 4
  · rw [if_pos c] at z
    obtain ⟨u1, t1, e1, e2⟩ := pb_ok z
    obtain ⟨-, -, rfl⟩ := tk_ok e1
    obtain ⟨R1, t2, e3, e4⟩ := pb_ok e2
    obtain ⟨rfl, rfl⟩ := name_ok e3
    obtain ⟨R2, t3, e5, e6⟩ := pb_ok e4
    obtain ⟨rfl, rfl⟩ := int_ok e5
    obtain ⟨R3, t4, e7, e8⟩ := pb_ok e6
    obtain ⟨rfl, rfl⟩ := int_ok e7
    obtain ⟨u5, t5, e9, e10⟩ := pb_ok e8
    obtain ⟨-, -, rfl⟩ := tk_ok e9
    cases e10
    have q : ∀ l : Option (Nat × Nat), l = late (late (late R.lt (nmd R (N (t + 1))) 3 (t + 1)) (!inR 1 24 (V (t + 1 + 1))) 5 (t + 1 + 1)) (!inR 0 99 (V (t + 1 + 1 + 1))) 5 (t + 1 + 1 + 1) → l = none → R.lt = none ∧ (1 ≤ V (t + 1 + 1) ∧ V (t + 1 + 1) ≤ 24) ∧ V (t + 1 + 1 + 1) ≤ 99 := by
      intro l e1 e2
      rw [e1] at e2
      obtain ⟨a1, a2⟩ := late_none e2
      obtain ⟨a3, a4⟩ := late_none a1
      exact ⟨(late_none a3).1, inR_t a4, (inR_t a2).2⟩
    refine ⟨fun e => ?_, fun e => h.gu (q _ rfl e).1, h.fs, fun e => h.fi (q _ rfl e).1, fun e => h.de (q _ rfl e).1, fun e => h.se (q _ rfl e).1, h.la, h.df⟩
    obtain ⟨b1, b2, b3⟩ := q _ rfl e
    intro s hs
    show 1 ≤ (if s = R.T.nS then V (t + 1 + 1) else R.T.lo s) ∧ (if s = R.T.nS then V (t + 1 + 1) else R.T.lo s) ≤ 24 ∧ (if s = R.T.nS then V (t + 1 + 1 + 1) else R.T.wo s) ≤ 99
    have hs' : s < R.T.nS + 1 := hs
    by_cases d : s = R.T.nS
    · rw [if_pos d, if_pos d]; exact ⟨b2.1, b2.2, b3⟩
    · rw [if_neg d, if_neg d]; exact h.su b1 s (by omega)
  · rw [if_neg c] at z; cases z
theorem ok_gue {K V : Nat → Nat} {N : Nat → List Nat} {R R' : Rd} {t t' : Nat} (h : okRd R) (z : gueP K V N R t = .ok (R', t')) : okRd R' := by
  unfold gueP at z
  by_cases c : R.T.nG < 7
  · rw [if_pos c] at z
    obtain ⟨u1, t1, e1, e2⟩ := pb_ok z
    obtain ⟨-, -, rfl⟩ := tk_ok e1
    obtain ⟨R1, t2, e3, e4⟩ := pb_ok e2
    obtain ⟨rfl, rfl⟩ := name_ok e3
    obtain ⟨R2, t3, e5, e6⟩ := pb_ok e4
    obtain ⟨rfl, rfl⟩ := int_ok e5
    obtain ⟨R3, t4, e7, e8⟩ := pb_ok e6
    obtain ⟨rfl, rfl⟩ := int_ok e7
    obtain ⟨R4, t5, e9, e10⟩ := pb_ok e8
    obtain ⟨rfl, rfl⟩ := int_ok e9
    obtain ⟨u6, t6, e11, e12⟩ := pb_ok e10
    obtain ⟨-, -, rfl⟩ := tk_ok e11
    cases e12
    have q : ∀ l : Option (Nat × Nat), l = late (late (late (late R.lt (nmd R (N (t + 1))) 3 (t + 1)) (!inR 0 23 (V (t + 1 + 1))) 5 (t + 1 + 1)) (!inR 1 12 (V (t + 1 + 1 + 1))) 5 (t + 1 + 1 + 1)) (!inR 0 99 (V (t + 1 + 1 + 1 + 1))) 5 (t + 1 + 1 + 1 + 1) → l = none → R.lt = none ∧ V (t + 1 + 1) ≤ 23 ∧ (1 ≤ V (t + 1 + 1 + 1) ∧ V (t + 1 + 1 + 1) ≤ 12) ∧ V (t + 1 + 1 + 1 + 1) ≤ 99 := by
      intro l e1 e2
      rw [e1] at e2
      obtain ⟨a1, a2⟩ := late_none e2
      obtain ⟨a3, a4⟩ := late_none a1
      obtain ⟨a5, a6⟩ := late_none a3
      exact ⟨(late_none a5).1, (inR_t a6).2, inR_t a4, (inR_t a2).2⟩
    refine ⟨fun e => h.su (q _ rfl e).1, fun e => ?_, h.fs, fun e => h.fi (q _ rfl e).1, fun e => h.de (q _ rfl e).1, fun e => h.se (q _ rfl e).1, h.la, h.df⟩
    obtain ⟨b1, b2, b3, b4⟩ := q _ rfl e
    intro s hs
    show (if s = R.T.nG then V (t + 1 + 1) else R.T.hr s) ≤ 23 ∧ 1 ≤ (if s = R.T.nG then V (t + 1 + 1 + 1) else R.T.hs s) ∧ (if s = R.T.nG then V (t + 1 + 1 + 1) else R.T.hs s) ≤ 12 ∧ (if s = R.T.nG then V (t + 1 + 1 + 1 + 1) else R.T.fe s) ≤ 99
    have hs' : s < R.T.nG + 1 := hs
    by_cases d : s = R.T.nG
    · rw [if_pos d, if_pos d, if_pos d]; exact ⟨b2, b3.1, b3.2, b4⟩
    · rw [if_neg d, if_neg d, if_neg d]; exact h.gu b1 s (by omega)
  · rw [if_neg c] at z; cases z
theorem ok_addF {R : Rd} {w1 w2 : List Nat} {t : Nat} (h : okRd R) : okRd (addF R w1 w2 t) := by
  unfold addF
  split
  · have q : late R.lt true 4 (t + 1) = none → R.lt = none := fun e => (late_none e).1
    exact ⟨fun e => h.su (q e), fun e => h.gu (q e), h.fs, fun e => h.fi (q e), fun e => h.de (q e), fun e => h.se (q e), h.la, h.df⟩
  · have q : late R.lt true 4 (t + 2) = none → R.lt = none := fun e => (late_none e).1
    exact ⟨fun e => h.su (q e), fun e => h.gu (q e), h.fs, fun e => h.fi (q e), fun e => h.de (q e), fun e => h.se (q e), h.la, h.df⟩
  · next g o _ _ =>
    have q : late R.lt (g == o || R.T.fo g o) 3 (t + 2) = none → R.lt = none := fun e => (late_none e).1
    refine ⟨fun e => h.su (q e), fun e => h.gu (q e), fun a b => ?_, fun e a => ?_, fun e => h.de (q e), fun e => h.se (q e), h.la, h.df⟩
    · show (R.T.fo a b || (a == g && b == o) || (a == o && b == g)) = (R.T.fo b a || (b == g && a == o) || (b == o && a == g))
      rw [h.fs a b]
      cases R.T.fo b a <;> cases (a == g) <;> cases (b == o) <;> cases (a == o) <;> cases (b == g) <;> rfl
    · show (R.T.fo a a || (a == g && a == o) || (a == o && a == g)) = false
      have d := (late_none e).2
      rw [Bool.or_eq_false_iff] at d
      rw [h.fi (q e) a, Bool.false_or]
      by_cases c1 : a = g
      · have c2 : (a == o) = false := by rw [c1]; exact d.1
        rw [c2, Bool.and_false, Bool.false_and, Bool.or_false]
      · rw [beq_eq_false_iff_ne.2 c1, Bool.false_and, Bool.and_false, Bool.or_false]
theorem ok_tel {K V : Nat → Nat} {N : Nat → List Nat} {R R' : Rd} {t t' : Nat} (h : okRd R) (z : telP K V N R t = .ok (R', t')) : okRd R' := by
  unfold telP at z
  by_cases c13 : K t = 13
  · rw [if_pos c13] at z; exact ok_sun h z
  rw [if_neg c13] at z
  by_cases c14 : K t = 14
  · rw [if_pos c14] at z; exact ok_gue h z
  rw [if_neg c14] at z
  by_cases c15 : K t = 15
  · rw [if_pos c15] at z
    unfold foeP at z
    by_cases c : R.nf < 8
    · rw [if_pos c] at z
      obtain ⟨u1, t1, e1, e2⟩ := pb_ok z
      obtain ⟨u2, t2, e3, e4⟩ := pb_ok e2
      obtain ⟨u3, t3, e5, e6⟩ := pb_ok e4
      obtain ⟨u4, t4, e7, e8⟩ := pb_ok e6
      cases e8
      exact ok_addF h
    · rw [if_neg c] at z; cases z
  rw [if_neg c15] at z
  by_cases cl : 16 ≤ K t ∧ K t ≤ 19
  · rw [if_pos cl] at z
    obtain ⟨l, t1, e1, e2⟩ := pb_ok z
    cases e2
    have ol := ok_lawP e1
    refine ⟨h.su, h.gu, h.fs, h.fi, h.de, h.se, fun j hj => ?_, fun j hj e => ?_⟩
    · show okL (if j = K t - 16 then l else R.T.la j)
      by_cases c : j = K t - 16
      · rw [if_pos c]; exact ol
      · rw [if_neg c]; exact h.la j hj
    · have e' : (if j = K t - 16 then true else R.T.tl j) = false := e
      show (if j = K t - 16 then l else R.T.la j) = dfl j
      by_cases c : j = K t - 16
      · rw [if_pos c] at e'; cases e'
      · rw [if_neg c] at e' ⊢; exact h.df j hj e'
  rw [if_neg cl] at z
  by_cases c20 : K t = 20
  · rw [if_pos c20] at z
    obtain ⟨u1, t1, e1, e2⟩ := pb_ok z
    obtain ⟨R1, t2, e3, e4⟩ := pb_ok e2
    obtain ⟨rfl, rfl⟩ := int_ok e3
    obtain ⟨u3, t3, e5, e6⟩ := pb_ok e4
    cases e6
    have q : late R.lt (!inR 1 999 (V t1)) 5 t1 = none → R.lt = none := fun e => (late_none e).1
    exact ⟨fun e => h.su (q e), fun e => h.gu (q e), h.fs, fun e => h.fi (q e), fun e => inR_t (late_none e).2, fun e => h.se (q e), h.la, h.df⟩
  rw [if_neg c20] at z
  by_cases c21 : K t = 21
  · rw [if_pos c21] at z
    obtain ⟨u1, t1, e1, e2⟩ := pb_ok z
    obtain ⟨R1, t2, e3, e4⟩ := pb_ok e2
    obtain ⟨rfl, rfl⟩ := int_ok e3
    obtain ⟨u3, t3, e5, e6⟩ := pb_ok e4
    cases e6
    have q : late R.lt (!inR 0 9999 (V t1)) 5 t1 = none → R.lt = none := fun e => (late_none e).1
    exact ⟨fun e => h.su (q e), fun e => h.gu (q e), h.fs, fun e => h.fi (q e), fun e => h.de (q e), fun e => (inR_t (late_none e).2).2, h.la, h.df⟩
  rw [if_neg c21] at z
  cases z
theorem ok_tap {K V : Nat → Nat} {N : Nat → List Nat} : ∀ {n : Nat} {R R' : Rd} {t t' : Nat}, okRd R → tapP K V N n R t = .ok (R', t') → okRd R'
  | 0, R, R', t, t', h, z => by cases z
  | n + 1, R, R', t, t', h, z => by
    unfold tapP at z
    by_cases c : K t = 0
    · rw [if_pos c] at z; cases z; exact h
    · rw [if_neg c] at z
      obtain ⟨R1, t1, e1, e2⟩ := pb_ok z
      exact ok_tap (ok_tel h e1) e2
/-- nothing told -/
def Rd0 : Rd := Rd.mk (Txt.mk 0 0 (fun _ => 0) (fun _ => 0) (fun _ => 0) (fun _ => 0) (fun _ => 0) (fun _ _ => false) 100 0 dfl (fun _ => false)) 0 (fun _ => []) (fun _ => []) none
theorem ok_dfl : ∀ k, k < 4 → okL (dfl k) := by
  intro k hk
  refine ⟨fun b hb => absurd (show b ∈ ([] : List (List Ins × List Ins × List Ins)) from hb) (by simp), ?_⟩
  show dpt [if k = 0 then (1, 0) else if k = 1 then (1, 1) else if k = 2 then (0, 1) else (1, 5)] 0 = some 1
  have all : ∀ k, k < 4 → dpt [if k = 0 then (1, 0) else if k = 1 then (1, 1) else if k = 2 then (0, 1) else (1, 5)] 0 = some 1 := by decide
  exact all k hk
theorem ok_Rd0 : okRd Rd0 :=
  ⟨fun _ s hs => absurd (show s < 0 from hs) (by omega), fun _ s hs => absurd (show s < 0 from hs) (by omega), fun _ _ => rfl, fun _ _ => rfl, fun _ => ⟨show 1 ≤ 100 by omega, show 100 ≤ 999 by omega⟩, fun _ => show 0 ≤ 9999 by omega, ok_dfl, fun _ _ _ => rfl⟩
