/-! ===== the reference: the reader's state ===== -/
/-- cells that reading into the half v leaves alone -/
def kc (v a x : Nat) : Prop := ((a = 253 ∨ a = 256 ∨ a = 261 ∨ a = 262 ∨ a = 263) ∧ x ≠ v) ∨ ((a = 254 ∨ a = 255 ∨ a = 264 ∨ a = 265) ∧ (x < 4 * v ∨ 4 * v + 4 ≤ x)) ∨ ((257 ≤ a ∧ a ≤ 260) ∧ (x < 7 * v ∨ 7 * v + 7 ≤ x)) ∨ ((266 ≤ a ∧ a ≤ 270) ∧ (x < 130 * v ∨ 130 * v + 130 ≤ x)) ∨ ((a = 271 ∨ a = 272) ∧ (x < 420 * v ∨ 420 * v + 420 ≤ x))
def KP (v : Nat) (m0 m : Mem) : Prop := ∀ a x, kc v a x → m.1 a x = m0.1 a x
theorem KP.rfl {v : Nat} {m : Mem} : KP v m m := fun _ _ _ => Eq.refl _
theorem KP.trans {v : Nat} {a b c : Mem} (h : KP v a b) (k : KP v b c) : KP v a c := fun x j hx => (k x j hx).trans (h x j hx)
theorem KP.wI {v : Nat} {m0 m : Mem} {a x : Nat} {y : Int32} (h : KP v m0 m) (n : ¬ kc v a x) : KP v m0 (wI m a x y) := by
  intro b j hb
  rw [wI_i]
  by_cases c : b = a ∧ j = x
  · rw [c.1, c.2] at hb; exact absurd hb n
  · rw [if_neg c]; exact h b j hb
theorem KP.of {v : Nat} {m0 m m' : Mem} (h : KP v m0 m) (k : ∀ a x, 253 ≤ a → m'.1 a x = m.1 a x) : KP v m0 m' := fun a x hx => (k a x (by unfold kc at hx; omega)).trans (h a x hx)
theorem KP.of3 {v : Nat} {m0 m m' : Mem} (h : KP v m0 m) (k : ∀ a x, a ≠ 243 → m'.1 a x = m.1 a x) : KP v m0 m' := h.of (fun a x ha => k a x (by omega))
theorem FL.kp {v : Nat} {m0 m m' : Mem} (h : FL v m m') (k : KP v m0 m) : KP v m0 m' := by
  obtain ⟨h1, h2, h3, h4⟩ := h
  intro a x hx
  refine Eq.trans ?_ (k a x hx)
  unfold kc at hx
  rcases hx with hx | hx | hx | hx | hx
  · exact (h1 a x (by simp [WTL, WX11_tellLaw, inW]; omega)).1
  · by_cases c : a = 264 ∨ a = 265
    · exact h4 a x (by omega) (by omega) hx.2
    · exact (h1 a x (by simp [WTL, WX11_tellLaw, inW]; omega)).1
  · exact (h1 a x (by simp [WTL, WX11_tellLaw, inW]; omega)).1
  · exact h3 a x hx.1.1 hx.1.2 hx.2
  · rcases hx.1 with c | c
    · rw [c]; exact (h2 x hx.2).1
    · rw [c]; exact (h2 x hx.2).2
def rLt (P : Nat → Nat) (t : Nat) (l : Option (Nat × Nat)) (m : Mem) : Prop := match l with
  | none => m.1 243 15 = 0
  | some x => m.1 243 15 = nI x.1 ∧ m.1 243 16 = nI (P x.2) ∧ 1 ≤ x.1 ∧ x.1 ≤ 5 ∧ x.2 < t
theorem rLt.up {P : Nat → Nat} {t t' : Nat} {l : Option (Nat × Nat)} {m : Mem} (h : rLt P t l m) (ht : t ≤ t') : rLt P t' l m := by
  cases l with
  | none => exact h
  | some x => exact ⟨h.1, h.2.1, h.2.2.1, h.2.2.2.1, Nat.lt_of_lt_of_le h.2.2.2.2 ht⟩
theorem rLt.ext {P : Nat → Nat} {t : Nat} {l : Option (Nat × Nat)} {m m' : Mem} (h : rLt P t l m) (k1 : m'.1 243 15 = m.1 243 15) (k2 : m'.1 243 16 = m.1 243 16) : rLt P t l m' := by
  unfold rLt at h ⊢
  rw [k1, k2]; exact h
def nmO (R : Rd) (c : Nat) : List Nat := if c < 10 then R.sn c else R.gn (c - 10)
abbrev rOr (R : Rd) (m : Mem) (O : Nat → Nat) : Prop := (∀ k, k < R.T.nS + R.T.nG → m.1 252 k = nI (O k) ∧ m.2 251 k = lN (pkw 27 (nmO R (O k))) ∧ ltOk (nmO R (O k)) ∧ (O k < R.T.nS ∨ (10 ≤ O k ∧ O k < 10 + R.T.nG))) ∧ (∀ s, s < R.T.nS → ∃ k, k < R.T.nS + R.T.nG ∧ O k = s) ∧ (∀ g, g < R.T.nG → ∃ k, k < R.T.nS + R.T.nG ∧ O k = 10 + g) ∧ (∀ j k, j < k → k < R.T.nS + R.T.nG → 10 ≤ O j → 10 ≤ O k → O j < O k)
theorem rOr.ea {R : Rd} {m : Mem} {O : Nat → Nat} (h : rOr R m O) : ∀ k, k < R.T.nS + R.T.nG → m.1 252 k = nI (O k) ∧ m.2 251 k = lN (pkw 27 (nmO R (O k))) ∧ ltOk (nmO R (O k)) ∧ (O k < R.T.nS ∨ (10 ≤ O k ∧ O k < 10 + R.T.nG)) := h.1
theorem rOr.su {R : Rd} {m : Mem} {O : Nat → Nat} (h : rOr R m O) : ∀ s, s < R.T.nS → ∃ k, k < R.T.nS + R.T.nG ∧ O k = s := h.2.1
theorem rOr.gu {R : Rd} {m : Mem} {O : Nat → Nat} (h : rOr R m O) : ∀ g, g < R.T.nG → ∃ k, k < R.T.nS + R.T.nG ∧ O k = 10 + g := h.2.2.1
theorem rOr.mo {R : Rd} {m : Mem} {O : Nat → Nat} (h : rOr R m O) : ∀ j k, j < k → k < R.T.nS + R.T.nG → 10 ≤ O j → 10 ≤ O k → O j < O k := h.2.2.2
def rNm (R : Rd) (m : Mem) : Prop := m.1 243 20 = nI (R.T.nS + R.T.nG) ∧ ∃ O : Nat → Nat, rOr R m O
abbrev rRd (K V : Nat → Nat) (N : Nat → List Nat) (P : Nat → Nat) (v : Nat) (R : Rd) (m : Mem) (t b q : Nat) : Prop := (rLS K V N P v m m t b q) ∧ (4 * b ≤ 520 * v + t) ∧ (m.1 253 v = nI R.T.nS) ∧ (R.T.nS ≤ 4) ∧ (m.1 256 v = nI R.T.nG) ∧ (R.T.nG ≤ 7) ∧ (m.1 261 v = nI R.nf) ∧ (R.nf ≤ 8) ∧ (m.1 262 v = nI R.T.de) ∧ (m.1 263 v = nI R.T.se) ∧ (∀ s, s < R.T.nS → m.1 254 (4 * v + s) = nI (R.T.lo s) ∧ m.1 255 (4 * v + s) = nI (R.T.wo s)) ∧ (∀ g, g < R.T.nG → m.1 257 (7 * v + g) = nI (R.T.hr g) ∧ m.1 258 (7 * v + g) = nI (R.T.hs g) ∧ m.1 259 (7 * v + g) = nI (R.T.fe g)) ∧ (∀ g, g < 7 → m.1 260 (7 * v + g) = nI (bs (R.T.fo g) 7)) ∧ (∀ g o, R.T.fo g o = true → g < R.T.nG ∧ o < R.T.nG) ∧ (rLs v R.T m b q) ∧ (rNm R m) ∧ (rLt P t R.lt m)
theorem rRd.ls {K V : Nat → Nat} {N : Nat → List Nat} {P : Nat → Nat} {v : Nat} {R : Rd} {m : Mem} {t b q : Nat} (h : rRd K V N P v R m t b q) : rLS K V N P v m m t b q := h.1
theorem rRd.hb {K V : Nat → Nat} {N : Nat → List Nat} {P : Nat → Nat} {v : Nat} {R : Rd} {m : Mem} {t b q : Nat} (h : rRd K V N P v R m t b q) : 4 * b ≤ 520 * v + t := h.2.1
theorem rRd.nS {K V : Nat → Nat} {N : Nat → List Nat} {P : Nat → Nat} {v : Nat} {R : Rd} {m : Mem} {t b q : Nat} (h : rRd K V N P v R m t b q) : m.1 253 v = nI R.T.nS := h.2.2.1
theorem rRd.s4 {K V : Nat → Nat} {N : Nat → List Nat} {P : Nat → Nat} {v : Nat} {R : Rd} {m : Mem} {t b q : Nat} (h : rRd K V N P v R m t b q) : R.T.nS ≤ 4 := h.2.2.2.1
theorem rRd.nG {K V : Nat → Nat} {N : Nat → List Nat} {P : Nat → Nat} {v : Nat} {R : Rd} {m : Mem} {t b q : Nat} (h : rRd K V N P v R m t b q) : m.1 256 v = nI R.T.nG := h.2.2.2.2.1
theorem rRd.g7 {K V : Nat → Nat} {N : Nat → List Nat} {P : Nat → Nat} {v : Nat} {R : Rd} {m : Mem} {t b q : Nat} (h : rRd K V N P v R m t b q) : R.T.nG ≤ 7 := h.2.2.2.2.2.1
theorem rRd.nf {K V : Nat → Nat} {N : Nat → List Nat} {P : Nat → Nat} {v : Nat} {R : Rd} {m : Mem} {t b q : Nat} (h : rRd K V N P v R m t b q) : m.1 261 v = nI R.nf := h.2.2.2.2.2.2.1
theorem rRd.f8 {K V : Nat → Nat} {N : Nat → List Nat} {P : Nat → Nat} {v : Nat} {R : Rd} {m : Mem} {t b q : Nat} (h : rRd K V N P v R m t b q) : R.nf ≤ 8 := h.2.2.2.2.2.2.2.1
theorem rRd.de {K V : Nat → Nat} {N : Nat → List Nat} {P : Nat → Nat} {v : Nat} {R : Rd} {m : Mem} {t b q : Nat} (h : rRd K V N P v R m t b q) : m.1 262 v = nI R.T.de := h.2.2.2.2.2.2.2.2.1
theorem rRd.se {K V : Nat → Nat} {N : Nat → List Nat} {P : Nat → Nat} {v : Nat} {R : Rd} {m : Mem} {t b q : Nat} (h : rRd K V N P v R m t b q) : m.1 263 v = nI R.T.se := h.2.2.2.2.2.2.2.2.2.1
theorem rRd.lo {K V : Nat → Nat} {N : Nat → List Nat} {P : Nat → Nat} {v : Nat} {R : Rd} {m : Mem} {t b q : Nat} (h : rRd K V N P v R m t b q) : ∀ s, s < R.T.nS → m.1 254 (4 * v + s) = nI (R.T.lo s) ∧ m.1 255 (4 * v + s) = nI (R.T.wo s) := h.2.2.2.2.2.2.2.2.2.2.1
theorem rRd.gu {K V : Nat → Nat} {N : Nat → List Nat} {P : Nat → Nat} {v : Nat} {R : Rd} {m : Mem} {t b q : Nat} (h : rRd K V N P v R m t b q) : ∀ g, g < R.T.nG → m.1 257 (7 * v + g) = nI (R.T.hr g) ∧ m.1 258 (7 * v + g) = nI (R.T.hs g) ∧ m.1 259 (7 * v + g) = nI (R.T.fe g) := h.2.2.2.2.2.2.2.2.2.2.2.1
theorem rRd.fo {K V : Nat → Nat} {N : Nat → List Nat} {P : Nat → Nat} {v : Nat} {R : Rd} {m : Mem} {t b q : Nat} (h : rRd K V N P v R m t b q) : ∀ g, g < 7 → m.1 260 (7 * v + g) = nI (bs (R.T.fo g) 7) := h.2.2.2.2.2.2.2.2.2.2.2.2.1
theorem rRd.fg {K V : Nat → Nat} {N : Nat → List Nat} {P : Nat → Nat} {v : Nat} {R : Rd} {m : Mem} {t b q : Nat} (h : rRd K V N P v R m t b q) : ∀ g o, R.T.fo g o = true → g < R.T.nG ∧ o < R.T.nG := h.2.2.2.2.2.2.2.2.2.2.2.2.2.1
theorem rRd.la {K V : Nat → Nat} {N : Nat → List Nat} {P : Nat → Nat} {v : Nat} {R : Rd} {m : Mem} {t b q : Nat} (h : rRd K V N P v R m t b q) : rLs v R.T m b q := h.2.2.2.2.2.2.2.2.2.2.2.2.2.2.1
theorem rRd.nm {K V : Nat → Nat} {N : Nat → List Nat} {P : Nat → Nat} {v : Nat} {R : Rd} {m : Mem} {t b q : Nat} (h : rRd K V N P v R m t b q) : rNm R m := h.2.2.2.2.2.2.2.2.2.2.2.2.2.2.2.1
theorem rRd.lt {K V : Nat → Nat} {N : Nat → List Nat} {P : Nat → Nat} {v : Nat} {R : Rd} {m : Mem} {t b q : Nat} (h : rRd K V N P v R m t b q) : rLt P t R.lt m := h.2.2.2.2.2.2.2.2.2.2.2.2.2.2.2.2
theorem rLs_ext {v : Nat} {T : Txt} {m m' : Mem} {b q : Nat} (h : rLs v T m b q) (k : ∀ a x, 264 ≤ a → a ≤ 272 → m'.1 a x = m.1 a x) : rLs v T m' b q := by
  intro j hj
  obtain ⟨b1, e1, h1, h2, h3⟩ := h j hj
  refine ⟨b1, e1, by rw [k _ _ (by omega) (by omega)]; exact h1, by rw [k _ _ (by omega) (by omega)]; exact h2, ?_⟩
  rcases h3 with z | ⟨z1, p, z2, z3⟩
  · exact Or.inl z
  · exact Or.inr ⟨z1, p, rLaw_ext z2 (fun x _ => ⟨k _ _ (by omega) (by omega), k _ _ (by omega) (by omega)⟩) (fun a x a1 a2 _ => k a x (by omega) (by omega)), z3⟩
/-- only the token, or a late fault, has changed -/
def Ks (m m' : Mem) : Prop := (∀ a x, ¬ (a = 243 ∧ (x = 11 ∨ x = 15 ∨ x = 16)) → m'.1 a x = m.1 a x) ∧ ∀ a x, m'.2 a x = m.2 a x
theorem Ks.rfl {m : Mem} : Ks m m := ⟨fun _ _ _ => Eq.refl _, fun _ _ => Eq.refl _⟩
theorem Ks.trans {a b c : Mem} (h : Ks a b) (k : Ks b c) : Ks a c := ⟨fun x j hx => (k.1 x j hx).trans (h.1 x j hx), fun x j => (k.2 x j).trans (h.2 x j)⟩
theorem Ks.w {m m' : Mem} {j : Nat} {x : Int32} (h : Ks m m') (hj : j = 11 ∨ j = 15 ∨ j = 16) : Ks m (wI m' 243 j x) := ⟨fun a y ha => by rw [wI_i, if_neg (by omega)]; exact h.1 a y ha, fun a y => h.2 a y⟩
theorem Ks.kp {v : Nat} {m0 m m' : Mem} (h : Ks m m') (k : KP v m0 m) : KP v m0 m' := k.of (fun a x ha => h.1 a x (by omega))
theorem rRd.k {K V : Nat → Nat} {N : Nat → List Nat} {P : Nat → Nat} {v : Nat} {R : Rd} {m m' : Mem} {t t' b q : Nat} {l : Option (Nat × Nat)} (h : rRd K V N P v R m t b q) (kk : Ks m m') (h11 : m'.1 243 11 = nI t') (t1 : t ≤ t') (t2 : t' ≤ 400) (hj : ∀ j, j < t' → 2 ≤ K j) (hl : rLt P t' l m') : rRd K V N P v (setLt R l) m' t' b q := by
  obtain ⟨kp, kl⟩ := kk
  obtain ⟨h1, h2, h3, h4, h5, h6, h7, h8, h9, h10, h11', h12, h13, h14, h15⟩ := h.ls
  have hb := h.hb
  refine ⟨⟨h1.fr (fun a x a1 a2 => ⟨kp a x (by omega), kl a x⟩), h11, t2, hj, by rw [kp _ _ (by omega)]; exact h5, by rw [kp _ _ (by omega)]; exact h6, by rw [kp _ _ (by omega)]; exact h7, by omega, h9, by rw [kp _ _ (by omega)]; exact h10, h11', by omega, by rw [kp _ _ (by omega)]; exact h13, h14, FL.rfl⟩, by omega, by rw [kp _ _ (by omega)]; exact h.nS, h.s4, by rw [kp _ _ (by omega)]; exact h.nG, h.g7, by rw [kp _ _ (by omega)]; exact h.nf, h.f8, by rw [kp _ _ (by omega)]; exact h.de, by rw [kp _ _ (by omega)]; exact h.se, fun s hs => ?_, fun g hg => ?_, fun g hg => ?_, h.fg, rLs_ext h.la (fun a x a1 a2 => kp a x (by omega)), ⟨by rw [kp _ _ (by omega)]; exact h.nm.1, ?_⟩, hl⟩
  · rw [kp _ _ (by omega), kp _ _ (by omega)]; exact h.lo s hs
  · rw [kp _ _ (by omega), kp _ _ (by omega), kp _ _ (by omega)]; exact h.gu g hg
  · rw [kp _ _ (by omega)]; exact h.fo g hg
  · obtain ⟨O, o⟩ := h.nm.2
    refine ⟨O, fun k hk => ?_, o.su, o.gu, o.mo⟩
    rw [kp _ _ (by omega), kl]; exact o.ea k hk
/-! outcomes -/
abbrev rF (P : Nat → Nat) (v : Nat) (m0 m : Mem) (f t : Nat) : Prop := (f = 1 ∨ f = 2) ∧ m.1 243 13 = nI f ∧ m.1 243 14 = nI (P t) ∧ m.1 243 19 = nI v ∧ v ≤ 1 ∧ KP v m0 m
theorem rF.p {P : Nat → Nat} {v : Nat} {m0 m : Mem} {f t : Nat} (h : rF P v m0 m f t) : 0 < m.1 243 13 ∧ ¬ m.1 243 13 = 0 := by rw [h.2.1]; exact f12_pos h.1
theorem rF.w {P : Nat → Nat} {v : Nat} {m0 m : Mem} {f t a x : Nat} {y : Int32} (h : rF P v m0 m f t) (ha : a ≠ 243) (n : ¬ kc v a x) : rF P v m0 (wI m a x y) f t :=
  ⟨h.1, by rw [wI_i, if_neg (by omega)]; exact h.2.1, by rw [wI_i, if_neg (by omega)]; exact h.2.2.1, by rw [wI_i, if_neg (by omega)]; exact h.2.2.2.1, h.2.2.2.2.1, h.2.2.2.2.2.wI n⟩
theorem rFS.rf {P : Nat → Nat} {v β : Nat} {m0 m m' : Mem} {f t : Nat} (h : rFS P v β m m' f t) (h19 : m.1 243 19 = nI v) (k : KP v m0 m) : rF P v m0 m' f t := by
  obtain ⟨h1, h2, h3, h4, b, h5, h6, h7, h8⟩ := h
  refine ⟨h1, h2, h3, ?_, h4, h8.kp k⟩
  rw [(h8.1 243 19 (by simp [WTL, WX11_tellLaw, inW])).1]; exact h19
def rG {α β : Type} (P : Nat → Nat) (v : Nat) (m0 : Mem) (R : PR α) (X : Option β) (π : β → Mem) (Q : α → Nat → β → Prop) : Prop :=
  (∀ a t', R = .ok (a, t') → ∃ y, X = some y ∧ Q a t' y) ∧ (∀ f t', R = .error (f, t') → ∃ y, X = some y ∧ rF P v m0 (π y) f t')
theorem rGB {α β γ δ : Type} {P : Nat → Nat} {v : Nat} {m0 : Mem} {R : PR α} {f : α → Nat → PR γ} {X : Option β} {π : β → Mem} {F : β → Option δ} {π' : δ → Mem} {Q : α → Nat → β → Prop} {Q' : γ → Nat → δ → Prop} (h : rG P v m0 R X π Q) (hF : ∀ y g t0, rF P v m0 (π y) g t0 → ∃ z, F y = some z ∧ rF P v m0 (π' z) g t0) (k : ∀ a t' y, R = .ok (a, t') → Q a t' y → rG P v m0 (f a t') (F y) π' Q') : rG P v m0 (pb R f) (X.bind F) π' Q' := by
  obtain ⟨h1, h2⟩ := h
  cases R with
  | error e =>
    obtain ⟨f0, t0⟩ := e
    obtain ⟨y, x1, x2⟩ := h2 f0 t0 rfl
    refine ⟨fun a t' e => (by cases e), fun g t' e => ?_⟩
    cases e
    rw [x1, bind_s]
    exact hF y f0 t0 x2
  | ok z =>
    obtain ⟨a0, t0⟩ := z
    obtain ⟨y, x1, x2⟩ := h1 a0 t0 rfl
    rw [x1, bind_s]
    exact k a0 t0 y rfl x2
theorem rG.mono {α β : Type} {P : Nat → Nat} {v : Nat} {m0 : Mem} {R : PR α} {X : Option β} {π : β → Mem} {Q Q' : α → Nat → β → Prop} (h : rG P v m0 R X π Q) (k : ∀ a t y, Q a t y → Q' a t y) : rG P v m0 R X π Q' :=
  ⟨fun a t' z => by obtain ⟨y, x1, x2⟩ := h.1 a t' z; exact ⟨y, x1, k _ _ _ x2⟩, h.2⟩
/-- the next token, whatever it is -/
theorem rRd.on {K V : Nat → Nat} {N : Nat → List Nat} {P : Nat → Nat} {v : Nat} {R : Rd} {m : Mem} {t b q : Nat} (h : rRd K V N P v R m t b q) (lt : t < 400) (k2 : 2 ≤ K t) : rRd K V N P v R (wI m 243 11 (nI (t + 1))) (t + 1) b q :=
  h.k (l := R.lt) (Ks.rfl.w (Or.inl rfl)) (by rw [wI_i, if_pos ⟨rfl, rfl⟩]) (by omega) (by omega) (fun j hj => by
    rcases (show j < t ∨ j = t by omega) with z | z
    · exact h.ls.2.2.2.1 j z
    · rw [z]; exact k2) ((h.lt.up (by omega)).ext (by rw [wI_i, if_neg (by omega)]) (by rw [wI_i, if_neg (by omega)]))
theorem r_goG {K V : Nat → Nat} {N : Nat → List Nat} {P : Nat → Nat} {v : Nat} {R : Rd} {m0 m : Mem} {t b q k : Nat} (hk : K t = k) (k2 : 2 ≤ k) (h : rRd K V N P v R m t b q) (kp : KP v m0 m) : rG P v m0 (tkP K k t) (fX11_goesOn m) id (fun _ t' m' => t' = t + 1 ∧ t < 400 ∧ K t = k ∧ m' = wI m 243 11 (nI (t + 1)) ∧ rRd K V N P v R m' (t + 1) b q ∧ KP v m0 m') := by
  obtain ⟨r1, r2⟩ := r_goR hk k2 h.ls
  refine ⟨fun a t' z => ?_, fun f t' z => ?_⟩
  · obtain ⟨m', x1, x2, x3, x4, x5⟩ := r1 a t' z
    subst x4
    exact ⟨_, x1, x2, x3, hk, rfl, h.on x3 (by omega), kp.wI (by unfold kc; omega)⟩
  · obtain ⟨m', x1, x2⟩ := r2 f t' z
    exact ⟨m', x1, x2.rf h.ls.2.2.2.2.2.2.2.2.2.2.2.2.1 kp⟩
theorem r_muG {K V : Nat → Nat} {N : Nat → List Nat} {P : Nat → Nat} {v : Nat} {R : Rd} {m0 m : Mem} {t b q k k' : Nat} (hK : ∀ t, K t < 34) (k2 : 2 ≤ k) (hk : kR (K t) = k' ↔ K t = k) (hk' : k' < 2 ^ 31) (h : rRd K V N P v R m t b q) (kp : KP v m0 m) : rG P v m0 (tkP K k t) (fX11_must (nI k') m) id (fun _ t' m' => t' = t + 1 ∧ t < 400 ∧ K t = k ∧ m' = wI m 243 11 (nI (t + 1)) ∧ rRd K V N P v R m' (t + 1) b q ∧ KP v m0 m') := by
  obtain ⟨r1, r2⟩ := r_muR hK k2 hk hk' h.ls
  refine ⟨fun a t' z => ?_, fun f t' z => ?_⟩
  · obtain ⟨m', x1, x2, x3, x4, x5⟩ := r1 a t' z
    have kt := (tk_ok z).1
    subst x4
    exact ⟨_, x1, x2, x3, kt, rfl, h.on x3 (by omega), kp.wI (by unfold kc; omega)⟩
  · obtain ⟨m', x1, x2⟩ := r2 f t' z
    exact ⟨m', x1, x2.rf h.ls.2.2.2.2.2.2.2.2.2.2.2.2.1 kp⟩
