/-! ===== the reference: late faults, numbers, names ===== -/
/-- only a late fault has changed -/
def Kw (m m' : Mem) : Prop := (∀ a x, ¬ (a = 243 ∧ (x = 15 ∨ x = 16)) → m'.1 a x = m.1 a x) ∧ ∀ a x, m'.2 a x = m.2 a x
theorem Kw.rfl {m : Mem} : Kw m m := ⟨fun _ _ _ => Eq.refl _, fun _ _ => Eq.refl _⟩
theorem Kw.trans {a b c : Mem} (h : Kw a b) (k : Kw b c) : Kw a c := ⟨fun x j hx => (k.1 x j hx).trans (h.1 x j hx), fun x j => (k.2 x j).trans (h.2 x j)⟩
theorem Kw.s {m m' : Mem} (h : Kw m m') : Ks m m' := ⟨fun a x ha => h.1 a x (by omega), h.2⟩
theorem r_wrong {P : Nat → Nat} {l : Option (Nat × Nat)} {m : Mem} {f s : Nat} (hs : s ≤ 400) (h13 : m.1 243 13 = 0) (h247 : m.1 247 s = nI (P s)) (hP : ∀ i, i < s → P i < P s) (hP2 : P s < 2 ^ 31) (hf : 1 ≤ f ∧ f ≤ 5) (h : rLt P (s + 1) l m) (hc : ∀ x, l = some x → x.2 = s → x.1 ≤ f) : ∃ m', fX11_wrong (nI f) (nI s) m = some m' ∧ rLt P (s + 1) (late l true f s) m' ∧ Kw m m' := by
  unfold fX11_wrong
  rw [if_pos (inbN (by omega) (by omega)), nI_clamp (by omega), h247, nm_ap, if_neg (show ¬ 0 < m.1 243 13 by rw [h13]; decide)]
  cases l with
  | none =>
    rw [if_pos (show m.1 243 15 = 0 from h), nm_ap, nm_ap]
    refine ⟨_, rfl, ⟨?_, ?_, hf.1, hf.2, by show s < s + 1; omega⟩, fun a x ha => ?_, fun a x => rfl⟩
    · rw [wI_i, if_neg (by omega), wI_i, if_pos ⟨rfl, rfl⟩]
    · rw [wI_i, if_pos ⟨rfl, rfl⟩]
    · rw [wI_i, if_neg (by omega), wI_i, if_neg (by omega)]
  | some x =>
    obtain ⟨h1, h2, h3, h4, h5⟩ := h
    rw [h1, if_neg (nI_ne0 (by omega) (by omega)), h2]
    by_cases c : x.2 = s
    · rw [c, if_neg (nI_nlt (Nat.le_refl _) hP2), if_pos rfl, if_neg (nI_nlt (hc x rfl c) (by omega))]
      exact ⟨m, rfl, ⟨h1, h2, h3, h4, h5⟩, Kw.rfl⟩
    · rw [if_pos (nI_lt (hP x.2 (by omega)) hP2)]
      exact ⟨m, rfl, ⟨h1, h2, h3, h4, h5⟩, Kw.rfl⟩
/-- places grow -/
def gro (K P : Nat → Nat) : Prop := (∀ i j, i < j → (∀ x, x < j → 2 ≤ K x) → P i < P j) ∧ ∀ i, P i < 2 ^ 31
theorem f_bo {P : Nat → Nat} {v : Nat} {m0 m : Mem} {f t : Nat} {x y : Int32} (h : rF P v m0 m f t) : fX11_bounded x y m = some (x, m) := by
  unfold fX11_bounded
  rw [if_pos h.p.1, r_fail_f h.p.1, bind_s]
theorem f_mu {P : Nat → Nat} {v : Nat} {m0 m : Mem} {f t : Nat} {x : Int32} (h : rF P v m0 m f t) : fX11_must x m = some m := f_must h.p
theorem f_na {P : Nat → Nat} {v : Nat} {m0 m : Mem} {f t : Nat} (h : rF P v m0 m f t) : fX11_named m = some (m.1 243 11, m) := by
  unfold fX11_named
  rw [f_mu h, bind_s, show FU = 4095 + 1 from rfl, fX11_named_12]
  by_cases c : (0 : Int32) < m.1 243 20
  · rw [if_pos c, if_neg h.p.2]
  · rw [if_neg c]
theorem f_kn {P : Nat → Nat} {v : Nat} {m0 m : Mem} {f t : Nat} (h : rF P v m0 m f t) : fX11_known m = some (-1, m) := by
  unfold fX11_known
  rw [f_mu h, bind_s, if_pos h.p.1]
theorem r_boG {K V : Nat → Nat} {N : Nat → List Nat} {P : Nat → Nat} {v : Nat} {R : Rd} {m0 m : Mem} {t b q a c : Nat} (hK : ∀ t, K t < 34) (hV : ∀ t, V t < 2 ^ 31) (hP : gro K P) (ha : a < 2 ^ 31) (hc : c < 2 ^ 31) (h : rRd K V N P v R m t b q) (kp : KP v m0 m) : rG P v m0 (intP K V a c R t) (fX11_bounded (nI a) (nI c) m) Prod.snd (fun R' t' y => R' = setLt R (late R.lt (!inR a c (V t)) 5 t) ∧ t' = t + 1 ∧ t < 400 ∧ K t = 3 ∧ y.1 = nI (V t) ∧ rRd K V N P v R' y.2 (t + 1) b q ∧ KP v m0 y.2 ∧ Ks m y.2) := by
  obtain ⟨h1, h2, h3, h4, h5, h6, h7, h8, h9, h10, h11, h12, h13, h14, h15⟩ := h.ls
  have tk := h1 t h3 h4
  have vt := hV t
  unfold fX11_bounded
  rw [if_neg (show ¬ 0 < m.1 243 13 by rw [h5]; decide), show fX11_is 2 m = some (decide (kR (K t) = 2)) from r_is (x := 2) h3 h2 h5 tk.1 (hK t) (by omega), bind_s]
  by_cases k3 : K t = 3
  · rw [if_pos (decide_eq_true ((kR_b _ (hK t)).1.2 k3)), h2, if_pos (inbN (by omega) (by omega)), nI_clamp (by omega), tk.2.2.1 k3, nm_ap]
    have main : ∀ m1, Kw m m1 → rLt P (t + 1) (late R.lt (!inR a c (V t)) 5 t) m1 → rG P v m0 (intP K V a c R t) ((fX11_goesOn m1).bind fun q6 => some (nI (V t), q6)) Prod.snd (fun R' t' y => R' = setLt R (late R.lt (!inR a c (V t)) 5 t) ∧ t' = t + 1 ∧ t < 400 ∧ K t = 3 ∧ y.1 = nI (V t) ∧ rRd K V N P v R' y.2 (t + 1) b q ∧ KP v m0 y.2 ∧ Ks m y.2) := by
      intro m1 kw lt1
      have w11 : m1.1 243 11 = nI t := by rw [kw.1 _ _ (by omega)]; exact h2
      have w13 : m1.1 243 13 = 0 := by rw [kw.1 _ _ (by omega)]; exact h5
      have w19 : m1.1 243 19 = nI v := by rw [kw.1 _ _ (by omega)]; exact h13
      unfold intP tkP
      rw [if_pos k3]
      by_cases lt : t < 400
      · rw [if_pos lt, r_goesOn lt w11, bind_s]
        refine ⟨fun R' t' z => ?_, fun f t' z => (by cases z)⟩
        cases z
        have ks : Ks m (wI m1 243 11 (nI (t + 1))) := kw.s.w (Or.inl rfl)
        refine ⟨_, rfl, rfl, rfl, lt, k3, rfl, ?_, ks.kp kp, ks⟩
        exact h.k ks (by rw [wI_i, if_pos ⟨rfl, rfl⟩]) (by omega) (by omega) (fun j hj => by
          rcases (show j < t ∨ j = t by omega) with z | z
          · exact h4 j z
          · rw [z, k3]; omega) (lt1.ext (by rw [wI_i, if_neg (by omega)]) (by rw [wI_i, if_neg (by omega)]))
      · rw [if_neg lt, r_goesOn_f (by omega) w11 w13 (by rw [kw.1 _ _ (by omega)]; exact tk.2.1), bind_s]
        refine ⟨fun R' t' z => (by cases z), fun f t' z => ?_⟩
        cases z
        refine ⟨_, rfl, Or.inr rfl, ?_, ?_, ?_, h14, ((kw.s.kp kp).wI (by unfold kc; omega)).wI (by unfold kc; omega)⟩
        · rw [wI_i, if_neg (by omega), wI_i, if_pos ⟨rfl, rfl⟩]; rfl
        · rw [wI_i, if_pos ⟨rfl, rfl⟩]
        · rw [wI_i, if_neg (by omega), wI_i, if_neg (by omega)]; exact w19
    obtain ⟨m2, x1, x2, x3⟩ := r_wrong (f := 5) (s := t) h3 h5 tk.2.1 (fun i hi => hP.1 i t hi h4) (hP.2 t) (by omega) (h.lt.up (show t ≤ t + 1 by omega)) (fun x e1 e2 => by
      have := h.lt
      rw [e1] at this
      have := this.2.2.2.2
      omega)
    by_cases c1 : V t < a
    · have i0 : inR a c (V t) = false := by unfold inR; rw [decide_eq_false (by omega)]; rfl
      rw [if_pos (nI_lt c1 ha), show fX11_wrong 5 (nI t) m = some m2 from x1, bind_s]
      exact main m2 x3 (by rw [i0]; exact x2)
    · rw [if_neg (nI_nlt (by omega) vt)]
      by_cases c2 : c < V t
      · have i0 : inR a c (V t) = false := by unfold inR; rw [decide_eq_false (show ¬ V t ≤ c by omega), Bool.and_false]
        rw [if_pos (nI_lt c2 vt), show fX11_wrong 5 (nI t) m = some m2 from x1, bind_s]
        exact main m2 x3 (by rw [i0]; exact x2)
      · have i0 : inR a c (V t) = true := by unfold inR; rw [decide_eq_true (show a ≤ V t by omega), decide_eq_true (show V t ≤ c by omega)]; rfl
        rw [if_neg (nI_nlt (by omega) hc)]
        exact main m Kw.rfl (by rw [i0, Bool.not_true, late_no]; exact h.lt.up (by omega))
  · rw [if_neg (by rw [decide_eq_true_eq]; exact fun z => k3 ((kR_b _ (hK t)).1.1 z)), r_fail (by omega) h2 h5 tk.2.1, bind_s]
    unfold intP tkP
    rw [if_neg k3]
    refine ⟨fun R' t' z => (by cases z), fun f t' z => ?_⟩
    cases z
    refine ⟨_, rfl, Or.inl rfl, ?_, ?_, ?_, h14, (kp.wI (by unfold kc; omega)).wI (by unfold kc; omega)⟩
    · rw [wI_i, if_neg (by omega), wI_i, if_pos ⟨rfl, rfl⟩]; rfl
    · rw [wI_i, if_pos ⟨rfl, rfl⟩]
    · rw [wI_i, if_neg (by omega), wI_i, if_neg (by omega)]; exact h13
/-! names -/
theorem fnd_is {f : Nat → List Nat} {w : List Nat} : ∀ {r i : Nat}, (fnd f w r i).isSome = true ↔ ∃ k, i ≤ k ∧ k < i + r ∧ f k = w
  | 0, i => by
    rw [fnd]
    constructor
    · intro h; cases h
    · rintro ⟨k, h1, h2, h3⟩; omega
  | r + 1, i => by
    rw [fnd]
    by_cases c : f i = w
    · rw [if_pos c]
      exact ⟨fun _ => ⟨i, by omega, by omega, c⟩, fun _ => rfl⟩
    · rw [if_neg c, fnd_is (r := r) (i := i + 1)]
      constructor
      · rintro ⟨k, h1, h2, h3⟩; exact ⟨k, by omega, by omega, h3⟩
      · rintro ⟨k, h1, h2, h3⟩
        rcases (show k = i ∨ i + 1 ≤ k by omega) with z | z
        · rw [z] at h3; exact absurd h3 c
        · exact ⟨k, z, by omega, h3⟩
theorem fnd_at {f : Nat → List Nat} {w : List Nat} : ∀ {r i g : Nat}, fnd f w r i = some g → f g = w ∧ ∀ j, i ≤ j → j < g → f j ≠ w
  | 0, i, g, h => by rw [fnd] at h; cases h
  | r + 1, i, g, h => by
    rw [fnd] at h
    by_cases c : f i = w
    · rw [if_pos c] at h
      cases h
      exact ⟨c, fun j h1 h2 => by omega⟩
    · rw [if_neg c] at h
      obtain ⟨h1, h2⟩ := fnd_at h
      refine ⟨h1, fun j j1 j2 => ?_⟩
      rcases (show j = i ∨ i + 1 ≤ j by omega) with z | z
      · rw [z]; exact c
      · exact h2 j z j2
theorem nmd_is {R : Rd} {m : Mem} {O : Nat → Nat} {w : List Nat} (h : rOr R m O) (s4 : R.T.nS ≤ 4) : (fnd (fun k => nmO R (O k)) w (R.T.nS + R.T.nG) 0).isSome = nmd R w := by
  have e : (fnd (fun k => nmO R (O k)) w (R.T.nS + R.T.nG) 0).isSome = true ↔ nmd R w = true := by
    unfold nmd
    rw [fnd_is, Bool.or_eq_true, fnd_is, fnd_is]
    constructor
    · rintro ⟨k, h1, h2, h3⟩
      have o := (h.ea k (by omega)).2.2.2
      unfold nmO at h3
      rcases o with z | z
      · rw [if_pos (by omega)] at h3
        exact Or.inl ⟨O k, by omega, by omega, h3⟩
      · rw [if_neg (by omega)] at h3
        exact Or.inr ⟨O k - 10, by omega, by omega, h3⟩
    · rintro (⟨s, h1, h2, h3⟩ | ⟨g, h1, h2, h3⟩)
      · obtain ⟨k, k1, k2⟩ := h.su s (by omega)
        exact ⟨k, by omega, by omega, by show nmO R (O k) = w; unfold nmO; rw [k2, if_pos (by omega)]; exact h3⟩
      · obtain ⟨k, k1, k2⟩ := h.gu g (by omega)
        exact ⟨k, by omega, by omega, by show nmO R (O k) = w; unfold nmO; rw [k2, if_neg (by omega), Nat.add_sub_cancel_left]; exact h3⟩
  cases c : nmd R w with
  | true => exact e.2 c
  | false =>
    cases d : (fnd (fun k => nmO R (O k)) w (R.T.nS + R.T.nG) 0).isSome with
    | false => rfl
    | true => rw [e.1 d] at c; cases c
theorem r_nm12 {P : Nat → Nat} {w : Nat → List Nat} {W : List Nat} {M s : Nat} {Kc : Mem → Option (Int32 × Mem)} (hM : M ≤ 11) (hs : s ≤ 400) (hP : ∀ i, i < s → P i < P s) (hP2 : P s < 2 ^ 31) (hW : ltOk W) : ∀ r i n m l, i + r = M → r < n → m.1 243 20 = nI M → m.1 243 13 = 0 → (∀ k, k < M → m.2 251 k = lN (pkw 27 (w k)) ∧ ltOk (w k)) → m.2 249 s = lN (pkw 27 W) → m.1 247 s = nI (P s) → rLt P (s + 1) l m → (∀ x, l = some x → x.2 = s → x.1 ≤ 3) → ∃ m', fX11_named_12 (nI s) Kc n (nI i) m = Kc m' ∧ rLt P (s + 1) (late l (fnd w W r i).isSome 3 s) m' ∧ Kw m m'
  | r, i, 0, m, l, _, h, _, _, _, _, _, _, _ => absurd h (by omega)
  | 0, i, n + 1, m, l, hi, _, h20, h13, hw, h249, h247, hl, hc => by
    rw [fX11_named_12, h20, if_neg (nI_nlt (by omega) (by omega)), fnd]
    exact ⟨m, rfl, by rw [show (none : Option Nat).isSome = false from rfl, late_no]; exact hl, Kw.rfl⟩
  | r + 1, i, n + 1, m, l, hi, hn, h20, h13, hw, h249, h247, hl, hc => by
    have wi := hw i (by omega)
    rw [fX11_named_12, h20, if_pos (nI_lt (by omega) (by omega)), if_pos h13, if_pos (inbN (by omega) (by omega)), if_pos (inbN (by omega) (by omega)), nI_clamp (by omega), nI_clamp (by omega), wi.1, h249, fnd]
    by_cases c : w i = W
    · obtain ⟨m2, x1, x2, x3⟩ := r_wrong (f := 3) hs h13 h247 hP hP2 (by omega) hl hc
      rw [if_pos (by rw [c]), if_pos c, show fX11_wrong 3 (nI s) m = some m2 from x1, bind_s, nI_1]
      obtain ⟨m3, y1, y2, y3⟩ := r_nm12 (w := w) (Kc := Kc) hM hs hP hP2 hW r (i + 1) n m2 (late l true 3 s) (by omega) (by omega) (by rw [x3.1 _ _ (by omega)]; exact h20) (by rw [x3.1 _ _ (by omega)]; exact h13) (fun k hk => by rw [x3.2]; exact hw k hk) (by rw [x3.2]; exact h249) (by rw [x3.1 _ _ (by omega)]; exact h247) x2 (fun x e1 e2 => by
        cases l with
        | none => cases e1; exact Nat.le_refl _
        | some z => cases e1; exact hc _ rfl e2)
      refine ⟨m3, y1, ?_, x3.trans y3⟩
      have e : late (late l true 3 s) (fnd w W r (i + 1)).isSome 3 s = late l (some i).isSome 3 s := by
        cases l <;> rfl
      rw [← e]; exact y2
    · rw [if_neg (fun z => c ((pkl_eq (by omega) (by omega) wi.2 hW).1 z)), if_neg c, nI_1]
      exact r_nm12 (w := w) (Kc := Kc) hM hs hP hP2 hW r (i + 1) n m l (by omega) (by omega) h20 h13 hw h249 h247 hl hc
theorem r_naG {K V : Nat → Nat} {N : Nat → List Nat} {P : Nat → Nat} {v : Nat} {R : Rd} {m0 m : Mem} {t b q : Nat} (hK : ∀ t, K t < 34) (hN : ∀ t, K t = 2 → ltOk (N t)) (hP : gro K P) (h : rRd K V N P v R m t b q) (kp : KP v m0 m) : rG P v m0 (nameP K N R t) (fX11_named m) Prod.snd (fun R' t' y => R' = setLt R (late R.lt (nmd R (N t)) 3 t) ∧ t' = t + 1 ∧ t < 400 ∧ K t = 2 ∧ y.1 = nI t ∧ rRd K V N P v R' y.2 (t + 1) b q ∧ KP v m0 y.2 ∧ Ks m y.2) := by
  have h4 := h.ls.2.2.2.1
  have s4 := h.s4
  have g7 := h.g7
  unfold fX11_named nameP
  rw [show m.1 243 11 = nI t from h.ls.2.1]
  refine rGB (r_muG (k := 2) (k' := 1) hK (by omega) (kR_b _ (hK t)).2.2.2.2.1 (by omega) h kp) ?_ ?_
  · intro y g t0 f
    have f' : rF P v m0 y g t0 := f
    rw [show FU = 4095 + 1 from rfl, fX11_named_12]
    by_cases c : (0 : Int32) < y.1 243 20
    · rw [if_pos c, if_neg f'.p.2]; exact ⟨_, rfl, f'⟩
    · rw [if_neg c]; exact ⟨_, rfl, f'⟩
  rintro u t1 m1 - ⟨rfl, lt, k2, e1, s1, kp1⟩
  obtain ⟨O, o⟩ := s1.nm.2
  have tk := s1.ls.1 t (by omega) h4
  have hl : rLt P (t + 1) R.lt m1 := s1.lt
  have hlt := h.lt
  obtain ⟨m2, x1, x2, x3⟩ := r_nm12 (Kc := fun μ3 => some (nI t, μ3)) (P := P) (w := fun k => nmO R (O k)) (W := N t) (M := R.T.nS + R.T.nG) (s := t) (by omega) (by omega) (fun i hi => hP.1 i t hi h4) (hP.2 t) (hN t k2) (R.T.nS + R.T.nG) 0 FU m1 R.lt (by omega) (by unfold FU; omega) s1.nm.1 s1.ls.2.2.2.2.1 (fun k hk => ⟨(o.ea k hk).2.1, (o.ea k hk).2.2.1⟩) (tk.2.2.2 k2) tk.2.1 hl (fun x z1 z2 => by
    rw [z1] at hlt
    have := hlt.2.2.2.2
    omega)
  rw [nmd_is o s4] at x2
  refine ⟨fun R' t' z => ?_, fun f t' z => (by cases z)⟩
  cases z
  have ks : Ks m m2 := by
    refine Ks.trans ?_ x3.s
    rw [e1]; exact Ks.rfl.w (Or.inl rfl)
  refine ⟨(nI t, m2), x1, rfl, rfl, lt, k2, rfl, ?_, ks.kp kp, ks⟩
  exact s1.k x3.s (by rw [x3.1 _ _ (by omega)]; exact s1.ls.2.1) (by omega) (by omega) s1.ls.2.2.2.1 x2
