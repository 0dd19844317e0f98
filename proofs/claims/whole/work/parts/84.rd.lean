/-! ===== the reader's state, and what a tell does to it ===== -/
abbrev Rd : Type := (Txt) × (Nat) × (Nat → List Nat) × (Nat → List Nat) × (Option (Nat × Nat))
abbrev Rd.mk (T : Txt) (nf : Nat) (sn : Nat → List Nat) (gn : Nat → List Nat) (lt : Option (Nat × Nat)) : Rd := (T, nf, sn, gn, lt)
def Rd.T (x : Rd) : Txt := x.1
def Rd.nf (x : Rd) : Nat := x.2.1
def Rd.sn (x : Rd) : Nat → List Nat := x.2.2.1
def Rd.gn (x : Rd) : Nat → List Nat := x.2.2.2.1
def Rd.lt (x : Rd) : Option (Nat × Nat) := x.2.2.2.2
theorem Rd.T_mk (T_ : Txt) (nf_ : Nat) (sn_ : Nat → List Nat) (gn_ : Nat → List Nat) (lt_ : Option (Nat × Nat)) : (Rd.mk T_ nf_ sn_ gn_ lt_).T = T_ := rfl
theorem Rd.nf_mk (T_ : Txt) (nf_ : Nat) (sn_ : Nat → List Nat) (gn_ : Nat → List Nat) (lt_ : Option (Nat × Nat)) : (Rd.mk T_ nf_ sn_ gn_ lt_).nf = nf_ := rfl
theorem Rd.sn_mk (T_ : Txt) (nf_ : Nat) (sn_ : Nat → List Nat) (gn_ : Nat → List Nat) (lt_ : Option (Nat × Nat)) : (Rd.mk T_ nf_ sn_ gn_ lt_).sn = sn_ := rfl
theorem Rd.gn_mk (T_ : Txt) (nf_ : Nat) (sn_ : Nat → List Nat) (gn_ : Nat → List Nat) (lt_ : Option (Nat × Nat)) : (Rd.mk T_ nf_ sn_ gn_ lt_).gn = gn_ := rfl
theorem Rd.lt_mk (T_ : Txt) (nf_ : Nat) (sn_ : Nat → List Nat) (gn_ : Nat → List Nat) (lt_ : Option (Nat × Nat)) : (Rd.mk T_ nf_ sn_ gn_ lt_).lt = lt_ := rfl
def fnd (f : Nat → List Nat) (w : List Nat) : Nat → Nat → Option Nat
  | 0, _ => none
  | r + 1, i => if f i = w then some i else fnd f w r (i + 1)
def late (l : Option (Nat × Nat)) (c : Bool) (f t : Nat) : Option (Nat × Nat) := match l with
  | some x => some x
  | none => if c = true then some (f, t) else none
def inR (a b x : Nat) : Bool := decide (a ≤ x) && decide (x ≤ b)
def upN (f : Nat → Nat) (i x : Nat) : Nat → Nat := fun j => if j = i then x else f j
def upL (f : Nat → List Nat) (i : Nat) (x : List Nat) : Nat → List Nat := fun j => if j = i then x else f j
def nmd (R : Rd) (w : List Nat) : Bool := (fnd R.sn w R.T.nS 0).isSome || (fnd R.gn w R.T.nG 0).isSome
def setLt (R : Rd) (l : Option (Nat × Nat)) : Rd := Rd.mk R.T R.nf R.sn R.gn l
def addS (R : Rd) (w : List Nat) (x y : Nat) : Rd := Rd.mk (Txt.mk (R.T.nS + 1) R.T.nG (upN R.T.lo R.T.nS x) (upN R.T.wo R.T.nS y) R.T.hr R.T.hs R.T.fe R.T.fo R.T.de R.T.se R.T.la R.T.tl) R.nf (upL R.sn R.T.nS w) R.gn R.lt
def addG (R : Rd) (w : List Nat) (x y z : Nat) : Rd := Rd.mk (Txt.mk R.T.nS (R.T.nG + 1) R.T.lo R.T.wo (upN R.T.hr R.T.nG x) (upN R.T.hs R.T.nG y) (upN R.T.fe R.T.nG z) R.T.fo R.T.de R.T.se R.T.la R.T.tl) R.nf R.sn (upL R.gn R.T.nG w) R.lt
def fo2 (f : Nat → Nat → Bool) (g o : Nat) : Nat → Nat → Bool := fun a b => f a b || (a == g && b == o) || (a == o && b == g)
def addF (R : Rd) (w1 w2 : List Nat) (t : Nat) : Rd := match fnd R.gn w1 R.T.nG 0, fnd R.gn w2 R.T.nG 0 with
  | none, _ => Rd.mk R.T (R.nf + 1) R.sn R.gn (late R.lt true 4 (t + 1))
  | some _, none => Rd.mk R.T (R.nf + 1) R.sn R.gn (late R.lt true 4 (t + 2))
  | some g, some o => Rd.mk (Txt.mk R.T.nS R.T.nG R.T.lo R.T.wo R.T.hr R.T.hs R.T.fe (fo2 R.T.fo g o) R.T.de R.T.se R.T.la R.T.tl) (R.nf + 1) R.sn R.gn (late R.lt (g == o || R.T.fo g o) 3 (t + 2))
def setD (R : Rd) (x : Nat) : Rd := Rd.mk (Txt.mk R.T.nS R.T.nG R.T.lo R.T.wo R.T.hr R.T.hs R.T.fe R.T.fo x R.T.se R.T.la R.T.tl) R.nf R.sn R.gn R.lt
def setE (R : Rd) (x : Nat) : Rd := Rd.mk (Txt.mk R.T.nS R.T.nG R.T.lo R.T.wo R.T.hr R.T.hs R.T.fe R.T.fo R.T.de x R.T.la R.T.tl) R.nf R.sn R.gn R.lt
def setL (R : Rd) (k : Nat) (l : LawT) : Rd := Rd.mk (setLa R.T k l) R.nf R.sn R.gn R.lt
/-- a new name, a number within bounds: late faults -/
def nameP (K : Nat → Nat) (N : Nat → List Nat) (R : Rd) (t : Nat) : PR Rd := pb (tkP K 2 t) fun _ t1 => .ok (setLt R (late R.lt (nmd R (N t)) 3 t), t1)
def intP (K V : Nat → Nat) (a b : Nat) (R : Rd) (t : Nat) : PR Rd := pb (tkP K 3 t) fun _ t1 => .ok (setLt R (late R.lt (!inR a b (V t)) 5 t), t1)
def sunP (K V : Nat → Nat) (N : Nat → List Nat) (R : Rd) (t : Nat) : PR Rd := if R.T.nS < 4 then pb (tkP K 13 t) fun _ t1 => pb (nameP K N R t1) fun R1 t2 => pb (intP K V 1 24 R1 t2) fun R2 t3 => pb (intP K V 0 99 R2 t3) fun R3 t4 => pb (tkP K 4 t4) fun _ t5 => .ok (addS R3 (N (t5 - 4)) (V (t5 - 3)) (V (t5 - 2)), t5) else .error (2, t)
def gueP (K V : Nat → Nat) (N : Nat → List Nat) (R : Rd) (t : Nat) : PR Rd := if R.T.nG < 7 then pb (tkP K 14 t) fun _ t1 => pb (nameP K N R t1) fun R1 t2 => pb (intP K V 0 23 R1 t2) fun R2 t3 => pb (intP K V 1 12 R2 t3) fun R3 t4 => pb (intP K V 0 99 R3 t4) fun R4 t5 => pb (tkP K 4 t5) fun _ t6 => .ok (addG R4 (N (t6 - 5)) (V (t6 - 4)) (V (t6 - 3)) (V (t6 - 2)), t6) else .error (2, t)
def foeP (K : Nat → Nat) (N : Nat → List Nat) (R : Rd) (t : Nat) : PR Rd := if R.nf < 8 then pb (tkP K 15 t) fun _ t1 => pb (tkP K 2 t1) fun _ t2 => pb (tkP K 2 t2) fun _ t3 => pb (tkP K 4 t3) fun _ t4 => .ok (addF R (N t1) (N t2) t, t4) else .error (2, t)
def telP (K V : Nat → Nat) (N : Nat → List Nat) (R : Rd) (t : Nat) : PR Rd :=
  if K t = 13 then sunP K V N R t
  else if K t = 14 then gueP K V N R t
  else if K t = 15 then foeP K N R t
  else if 16 ≤ K t ∧ K t ≤ 19 then pb (lawP K V (K t - 16) t) fun l t1 => .ok (setL R (K t - 16) l, t1)
  else if K t = 20 then pb (tkP K 20 t) fun _ t1 => pb (intP K V 1 999 R t1) fun R1 t2 => pb (tkP K 4 t2) fun _ t3 => .ok (setD R1 (V t1), t3)
  else if K t = 21 then pb (tkP K 21 t) fun _ t1 => pb (intP K V 0 9999 R t1) fun R1 t2 => pb (tkP K 4 t2) fun _ t3 => .ok (setE R1 (V t1), t3)
  else .error (1, t)
/-- the whole row of tokens: R at the end, or the fault -/
def tapP (K V : Nat → Nat) (N : Nat → List Nat) : Nat → Rd → Nat → PR Rd
  | 0, _, t => .error (0, t)
  | n + 1, R, t => if K t = 0 then .ok (R, t) else pb (telP K V N R t) fun R1 t1 => tapP K V N n R1 t1
/-! the component -/
def cLt (P : Nat → Nat) (l : Option (Nat × Nat)) (m : Mem) : Prop := match l with
  | none => m.1 3 4 = 0 ∧ m.1 3 5 = -1
  | some x => m.1 3 4 = nI x.1 ∧ m.1 3 5 = nI (P x.2) ∧ 1 ≤ x.1 ∧ x.1 ≤ 5
abbrev cRd (K V : Nat → Nat) (N : Nat → List Nat) (P : Nat → Nat) (R : Rd) (m : Mem) (t e : Nat) : Prop := (cPS K V N P m t e) ∧ (m.1 215 0 = nI R.T.nS) ∧ (R.T.nS ≤ 4) ∧ (m.1 215 3 = nI R.T.nG) ∧ (R.T.nG ≤ 7) ∧ (m.1 215 7 = nI R.nf) ∧ (R.nf ≤ 8) ∧ (m.1 215 8 = nI R.T.de) ∧ (m.1 215 9 = nI R.T.se) ∧ (∀ s, s < R.T.nS → m.1 216 s = nI (R.T.lo s) ∧ m.1 217 s = nI (R.T.wo s) ∧ m.2 229 s = lN (pkw 32 (R.sn s)) ∧ ltOk (R.sn s)) ∧ (∀ g, g < R.T.nG → m.1 218 g = nI (R.T.hr g) ∧ m.1 219 g = nI (R.T.hs g) ∧ m.1 220 g = nI (R.T.fe g) ∧ m.1 228 g = nI (bs (R.T.fo g) 7) ∧ m.2 230 g = lN (pkw 32 (R.gn g)) ∧ ltOk (R.gn g)) ∧ (∀ g o, R.T.fo g o = true → g < R.T.nG ∧ o < R.T.nG) ∧ (cLs R.T m e) ∧ (cLt P R.lt m)
theorem cRd.ps {K V : Nat → Nat} {N : Nat → List Nat} {P : Nat → Nat} {R : Rd} {m : Mem} {t e : Nat} (h : cRd K V N P R m t e) : cPS K V N P m t e := h.1
theorem cRd.nS {K V : Nat → Nat} {N : Nat → List Nat} {P : Nat → Nat} {R : Rd} {m : Mem} {t e : Nat} (h : cRd K V N P R m t e) : m.1 215 0 = nI R.T.nS := h.2.1
theorem cRd.s4 {K V : Nat → Nat} {N : Nat → List Nat} {P : Nat → Nat} {R : Rd} {m : Mem} {t e : Nat} (h : cRd K V N P R m t e) : R.T.nS ≤ 4 := h.2.2.1
theorem cRd.nG {K V : Nat → Nat} {N : Nat → List Nat} {P : Nat → Nat} {R : Rd} {m : Mem} {t e : Nat} (h : cRd K V N P R m t e) : m.1 215 3 = nI R.T.nG := h.2.2.2.1
theorem cRd.g7 {K V : Nat → Nat} {N : Nat → List Nat} {P : Nat → Nat} {R : Rd} {m : Mem} {t e : Nat} (h : cRd K V N P R m t e) : R.T.nG ≤ 7 := h.2.2.2.2.1
theorem cRd.nf {K V : Nat → Nat} {N : Nat → List Nat} {P : Nat → Nat} {R : Rd} {m : Mem} {t e : Nat} (h : cRd K V N P R m t e) : m.1 215 7 = nI R.nf := h.2.2.2.2.2.1
theorem cRd.f8 {K V : Nat → Nat} {N : Nat → List Nat} {P : Nat → Nat} {R : Rd} {m : Mem} {t e : Nat} (h : cRd K V N P R m t e) : R.nf ≤ 8 := h.2.2.2.2.2.2.1
theorem cRd.de {K V : Nat → Nat} {N : Nat → List Nat} {P : Nat → Nat} {R : Rd} {m : Mem} {t e : Nat} (h : cRd K V N P R m t e) : m.1 215 8 = nI R.T.de := h.2.2.2.2.2.2.2.1
theorem cRd.se {K V : Nat → Nat} {N : Nat → List Nat} {P : Nat → Nat} {R : Rd} {m : Mem} {t e : Nat} (h : cRd K V N P R m t e) : m.1 215 9 = nI R.T.se := h.2.2.2.2.2.2.2.2.1
theorem cRd.lo {K V : Nat → Nat} {N : Nat → List Nat} {P : Nat → Nat} {R : Rd} {m : Mem} {t e : Nat} (h : cRd K V N P R m t e) : ∀ s, s < R.T.nS → m.1 216 s = nI (R.T.lo s) ∧ m.1 217 s = nI (R.T.wo s) ∧ m.2 229 s = lN (pkw 32 (R.sn s)) ∧ ltOk (R.sn s) := h.2.2.2.2.2.2.2.2.2.1
theorem cRd.gu {K V : Nat → Nat} {N : Nat → List Nat} {P : Nat → Nat} {R : Rd} {m : Mem} {t e : Nat} (h : cRd K V N P R m t e) : ∀ g, g < R.T.nG → m.1 218 g = nI (R.T.hr g) ∧ m.1 219 g = nI (R.T.hs g) ∧ m.1 220 g = nI (R.T.fe g) ∧ m.1 228 g = nI (bs (R.T.fo g) 7) ∧ m.2 230 g = lN (pkw 32 (R.gn g)) ∧ ltOk (R.gn g) := h.2.2.2.2.2.2.2.2.2.2.1
theorem cRd.fg {K V : Nat → Nat} {N : Nat → List Nat} {P : Nat → Nat} {R : Rd} {m : Mem} {t e : Nat} (h : cRd K V N P R m t e) : ∀ g o, R.T.fo g o = true → g < R.T.nG ∧ o < R.T.nG := h.2.2.2.2.2.2.2.2.2.2.2.1
theorem cRd.la {K V : Nat → Nat} {N : Nat → List Nat} {P : Nat → Nat} {R : Rd} {m : Mem} {t e : Nat} (h : cRd K V N P R m t e) : cLs R.T m e := h.2.2.2.2.2.2.2.2.2.2.2.2.1
theorem cRd.lt {K V : Nat → Nat} {N : Nat → List Nat} {P : Nat → Nat} {R : Rd} {m : Mem} {t e : Nat} (h : cRd K V N P R m t e) : cLt P R.lt m := h.2.2.2.2.2.2.2.2.2.2.2.2.2
theorem cRd.k {K V : Nat → Nat} {N : Nat → List Nat} {P : Nat → Nat} {R : Rd} {m m' : Mem} {t e t' : Nat} {l : Option (Nat × Nat)} (h : cRd K V N P R m t e) (k : Sm 215 230 m m') (p : cPS K V N P m' t' e) (q : cLt P l m') : cRd K V N P (setLt R l) m' t' e := by
  have ki : ∀ a j, 215 ≤ a → a ≤ 230 → m'.1 a j = m.1 a j := fun a j a1 a2 => k.i a j a1 a2
  have kl : ∀ a j, 215 ≤ a → a ≤ 230 → m'.2 a j = m.2 a j := fun a j a1 a2 => k.l a j a1 a2
  refine ⟨p, by rw [ki _ _ (by omega) (by omega)]; exact h.nS, h.s4, by rw [ki _ _ (by omega) (by omega)]; exact h.nG, h.g7, by rw [ki _ _ (by omega) (by omega)]; exact h.nf, h.f8, by rw [ki _ _ (by omega) (by omega)]; exact h.de, by rw [ki _ _ (by omega) (by omega)]; exact h.se, fun s hs => ?_, fun g hg => ?_, h.fg, fun j hj => ?_, q⟩
  · have := h.lo s hs
    rw [ki _ _ (by omega) (by omega), ki _ _ (by omega) (by omega), kl _ _ (by omega) (by omega)]
    exact this
  · have := h.gu g hg
    rw [ki _ _ (by omega) (by omega), ki _ _ (by omega) (by omega), ki _ _ (by omega) (by omega), ki _ _ (by omega) (by omega), kl _ _ (by omega) (by omega)]
    exact this
  · obtain ⟨p0, a1, a2⟩ := h.la j hj
    exact ⟨p0, by rw [ki _ _ (by omega) (by omega)]; exact a1, cLaw_ext a2 (fun x _ _ => ⟨ki _ _ (by omega) (by omega), ki _ _ (by omega) (by omega)⟩)⟩
/-- a late fault kept: the first stays -/
theorem c_keepLate {P : Nat → Nat} {l : Option (Nat × Nat)} {m : Mem} {f t : Nat} (h : cLt P l m) (hf : 1 ≤ f ∧ f ≤ 5) (ht : t < 402) (hp : m.1 6 t = nI (P t)) : ∃ m', fX4_keepLate (nI f) (nI t) m = some m' ∧ cLt P (late l true f t) m' ∧ (∀ a j, ¬ (a = 3 ∧ (j = 4 ∨ j = 5)) → m'.1 a j = m.1 a j) ∧ (∀ a j, m'.2 a j = m.2 a j) := by
  unfold fX4_keepLate
  cases l with
  | none =>
    have e6 : (wI m 3 4 (nI f)).1 6 t = nI (P t) := by rw [wI_i, if_neg (by omega)]; exact hp
    rw [if_pos h.1, nm_ap, if_pos (inbN (by omega) (by omega)), nI_clamp (by omega), e6, nm_ap]
    refine ⟨_, rfl, ⟨?_, ?_, hf.1, hf.2⟩, fun a j hj => ?_, fun a j => rfl⟩
    · rw [wI_i, if_neg (by omega), wI_i, if_pos ⟨rfl, rfl⟩]
    · rw [wI_i, if_pos ⟨rfl, rfl⟩]
    · rw [wI_i, if_neg (by omega), wI_i, if_neg (by omega)]
  | some x =>
    obtain ⟨h1, h2, h3, h4⟩ := h
    have ne : ¬ m.1 3 4 = 0 := by
      rw [h1]
      intro z
      have := (nI_eq (a := x.1) (b := 0) (by omega) (by omega)).1 z
      omega
    rw [if_neg ne]
    exact ⟨m, rfl, ⟨h1, h2, h3, h4⟩, fun a j _ => rfl, fun a j => rfl⟩
def cR {α : Type} (R : PR α) (X : Option (Bool × Mem)) (Q : α → Nat → Mem → Prop) : Prop :=
  (∀ a t', R = .ok (a, t') → ∃ m', X = some (true, m') ∧ Q a t' m') ∧ (∀ f t', R = .error (f, t') → ∃ m', X = some (false, m') ∧ m'.1 3 0 = nI f ∧ m'.1 3 3 = nI t')
theorem cB {α β : Type} {R : PR α} {f : α → Nat → PR β} {X : Option (Bool × Mem)} {F : Bool × Mem → Option (Bool × Mem)} {G : Mem → Option (Bool × Mem)} {Q : α → Nat → Mem → Prop} {Q' : β → Nat → Mem → Prop} (h : cR R X Q) (hF : ∀ m', F (false, m') = some (false, m')) (hG : ∀ m', F (true, m') = G m') (k : ∀ a t' m', R = .ok (a, t') → Q a t' m' → cR (f a t') (G m') Q') : cR (pb R f) (X.bind F) Q' := by
  obtain ⟨h1, h2⟩ := h
  cases R with
  | error e =>
    obtain ⟨f0, t0⟩ := e
    obtain ⟨m', x1, x2⟩ := h2 f0 t0 rfl
    refine ⟨fun a t' e => (by cases e), fun g t' e => ?_⟩
    cases e
    exact ⟨m', by rw [x1, bind_s, hF], x2⟩
  | ok z =>
    obtain ⟨a0, t0⟩ := z
    obtain ⟨m', x1, x2⟩ := h1 a0 t0 rfl
    rw [x1, bind_s, hG]
    exact k a0 t0 m' rfl x2
/-- a token taken -/
theorem c_tkD {K V : Nat → Nat} {N : Nat → List Nat} {P : Nat → Nat} {R : Rd} {m : Mem} {t e k : Nat} (hK : ∀ t, K t < 34) (hk : 2 ≤ k ∧ k < 34) (h : cRd K V N P R m t e) : cR (tkP K k t) (fX4_take (nI k) m) (fun _ t' m' => t' = t + 1 ∧ t < 400 ∧ K t = k ∧ m' = wI m 3 3 (nI (t + 1)) ∧ cRd K V N P R m' (t + 1) e) := by
  obtain ⟨q1, q2⟩ := c_tkR hK hk h.ps
  refine ⟨fun a t' z => ?_, fun f t' z => ?_⟩
  · obtain ⟨m', x1, x2, x3, x4, x5, x6⟩ := q1 a t' z
    refine ⟨m', x1, x3, x4, (tk_ok z).1, x5, ?_⟩
    have lt : cLt P R.lt m' := by
      have := h.lt
      rw [x5]
      unfold cLt at this ⊢
      split at this
      · rw [wI_i, if_neg (by omega), wI_i, if_neg (by omega)]; exact this
      · rw [wI_i, if_neg (by omega), wI_i, if_neg (by omega)]; exact this
    have := h.k (l := R.lt) (m' := m') (by rw [x5]; exact Sm.wI (by omega)) x6 lt
    exact this
  · obtain ⟨m', x1, x2, x3, x4⟩ := q2 f t' z
    exact ⟨m', x1, x3, x4⟩
