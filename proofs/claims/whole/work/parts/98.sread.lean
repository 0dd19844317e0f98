/-! ===== read: both sides ===== -/
theorem rLaw_ex2 {m m' : Mem} {las : Cd} {e : Nat} : ∀ {r : List (Cd × Cd × Cd)} {b p : Nat}, rLaw m las b p r e → (∀ x, p ≤ x → x < p + tln (r, las) → m'.1 271 x = m.1 271 x ∧ m'.1 272 x = m.1 272 x) → (∀ a x, 266 ≤ a → a ≤ 270 → b ≤ x → x < e → m'.1 a x = m.1 a x) → rLaw m' las b p r e
  | [], b, p, h, k1, k2 => by
    obtain ⟨h1, h2, h3, h4, h5, h6, h7⟩ := h
    have tl : tln (([], las) : LawT) = las.length := by simp [tln]
    exact ⟨by rw [k2 _ _ (by omega) (by omega) (by omega) (by omega)]; exact h1, by rw [k2 _ _ (by omega) (by omega) (by omega) (by omega)]; exact h2, by rw [k2 _ _ (by omega) (by omega) (by omega) (by omega)]; exact h3, rCode_ext h4 (fun x x1 hx => k1 x (by omega) (by omega)), h5, h6, h7⟩
  | c :: r, b, p, h, k1, k2 => by
    obtain ⟨h1, h2, h3, h4, h5, h6, h7, h8, h9⟩ := h
    have le := rLaw_le h9
    have tl : tln ((c :: r, las) : LawT) = c.1.length + c.2.1.length + c.2.2.length + tln (r, las) := by
      simp only [tln, List.map_cons, List.sum_cons]; omega
    exact ⟨by rw [k2 _ _ (by omega) (by omega) (by omega) (by omega)]; exact h1, by rw [k2 _ _ (by omega) (by omega) (by omega) (by omega)]; exact h2, rCode_ext h3 (fun x x1 hx => k1 x (by omega) (by omega)), by rw [k2 _ _ (by omega) (by omega) (by omega) (by omega)]; exact h4, rCode_ext h5 (fun x x1 hx => k1 x (by omega) (by omega)), by rw [k2 _ _ (by omega) (by omega) (by omega) (by omega)]; exact h6, rCode_ext h7 (fun x x1 hx => k1 x (by omega) (by omega)), by rw [k2 _ _ (by omega) (by omega) (by omega) (by omega)]; exact h8, rLaw_ex2 h9 (fun x x1 hx => k1 x (by omega) (by omega)) (fun a x a1 a2 x1 x2 => k2 a x a1 a2 (by omega) x2)⟩
/-- the live half stays -/
theorem rT.kp {lv : Nat} {T : Txt} {m m' : Mem} (h : rT lv T m) (hT : okT T) (hl : lv ≤ 1) (k : KP (1 - lv) m m') : rT lv T m' := by
  have s4 := hT.s4
  have g7 := hT.g7
  refine ⟨by rw [k _ _ (by unfold kc; omega)]; exact h.nS, by rw [k _ _ (by unfold kc; omega)]; exact h.nG, fun s hs => by rw [k _ _ (by unfold kc; omega)]; exact h.lo s hs, fun s hs => by rw [k _ _ (by unfold kc; omega)]; exact h.wo s hs, fun g hg => by rw [k _ _ (by unfold kc; omega)]; exact h.hr g hg, fun g hg => by rw [k _ _ (by unfold kc; omega)]; exact h.hs g hg, fun g hg => by rw [k _ _ (by unfold kc; omega)]; exact h.fe g hg, fun g hg => by rw [k _ _ (by unfold kc; omega)]; exact h.fo g hg, by rw [k _ _ (by unfold kc; omega)]; exact h.de, by rw [k _ _ (by unfold kc; omega)]; exact h.se, fun j hj => ?_⟩
  obtain ⟨b, e, h1, h2, h3⟩ := h.la j hj
  refine ⟨b, e, by rw [k _ _ (by unfold kc; omega)]; exact h1, by rw [k _ _ (by unfold kc; omega)]; exact h2, ?_⟩
  rcases h3 with z | ⟨z1, p, z2, z3, z4, z5, z6⟩
  · exact Or.inl z
  · refine Or.inr ⟨z1, p, rLaw_ex2 z2 (fun x x1 x2 => ?_) (fun a x a1 a2 x1 x2 => ?_), z3, z4, z5, z6⟩
    · have x2' : x < p + tln (T.la j) := x2
      exact ⟨k _ _ (by unfold kc; omega), k _ _ (by unfold kc; omega)⟩
    · exact k _ _ (by unfold kc; omega)
/-- a fault: the tape is empty, the place is told, all else is as it was -/
def fltA (A : Abs) (p : Int32) : Abs := Abs.mk A.T A.S A.k A.hi A.he A.cl A.ch A.ct 0 A.tb p A.lv
theorem fltA_ok {A : Abs} {p : Int32} (h : okA A) : okA (fltA A p) := ⟨h.T, h.S, h.k, h.hi, h.he, h.cl, h.ch, by show 0 ≤ 2000; omega, h.tb, h.lv⟩
theorem r_flt {A : Abs} {μ m : Mem} {p : Int32} (hA : okA A) (h : RInv A μ) (kq' : Kq μ m) (kp : KP (1 - A.lv) μ m) (h2 : m.1 243 2 = 0) : RInv (fltA A p) (wI m 243 17 p) := by
  have k : ∀ a x, kq a x → ¬ (a = 243 ∧ x = 17) → (wI m 243 17 p).1 a x = μ.1 a x := fun a x hx hn => by rw [wI_i, if_neg hn]; exact (kq' a x hx).1
  have sm : ∀ lo hi, 274 ≤ lo → Sm lo hi μ (wI m 243 17 p) := fun lo hi hl a x h1 h3 => ⟨k a x (by unfold kq; omega) (by omega), (kq' a x (by unfold kq; omega)).2⟩
  have t := h.T.kp hA.T hA.lv kp
  refine ⟨by rw [wI_i, if_neg (by omega)]; exact h2, fun j hj => absurd (show j < 0 from hj) (by omega), by rw [wI_i, if_pos ⟨rfl, rfl⟩]; rfl, by rw [k _ _ (by unfold kq; omega) (by omega)]; exact h.lv, ?_, h.S.sm (sm _ _ (by omega)), by rw [k _ _ (by unfold kq; omega) (by omega)]; exact h.hn, fun i hi => (h.hi i hi).sm (sm _ _ (by omega)), fun i hi => by rw [k _ _ (by unfold kq; omega) (by omega)]; exact h.hh i hi, fun i s hi hs => (h.he i s hi hs).sm (sm _ _ (by omega)), by rw [k _ _ (by unfold kq; omega) (by omega)]; exact h.cn, fun i hi => by rw [k _ _ (by unfold kq; omega) (by omega)]; exact h.ch i hi, fun i hi => by rw [k _ _ (by unfold kq; omega) (by omega)]; exact h.ct i hi, fun w hw => by rw [wI_l, (kq' 250 w (by unfold kq; omega)).2]; exact h.ws w hw⟩
  exact t.sm (fun a x a1 a2 => ⟨by rw [wI_i, if_neg (by omega)], rfl⟩)
/-! a good text -/
def newA (A : Abs) (T : Txt) : Abs := Abs.mk T S0 0 (fun _ => S0) (fun _ => none) 0 (fun _ => 0) (fun _ => false) 0 A.tb (-1) (1 - A.lv)
theorem okS_new (T : Txt) : okS T S0 := by
  refine ⟨fun _ => Or.inl rfl, ?_, fun _ => (by decide : 0 ≤ 999), fun _ => (by decide : 0 ≤ 99), ?_, ?_⟩
  · intro g o _ h; exact absurd h (by decide : ¬ 9 < 9)
  · intro g h; cases h
  · intro g h; cases h
theorem newA_ok {A : Abs} {T : Txt} (h : okA A) (hT : okT T) : okA (newA A T) :=
  ⟨hT, okS_new T, by show 0 ≤ 40; omega, fun i hi => absurd (show i < 0 from hi) (by omega), fun i s z => (by cases z), by show 0 ≤ 20; omega, fun i hi => absurd (show i < 0 from hi) (by omega), by show 0 ≤ 2000; omega, h.tb, by show 1 - A.lv ≤ 1; omega⟩
theorem r_begins2 {m : Mem} {Kc : Mem → Option Mem} : ∃ m', fX11_begins_2 Kc FU 0 m = Kc m' ∧ (∀ j, j < 31 → m'.1 277 j = 0) ∧ (∀ a x, a ≠ 277 → m'.1 a x = m.1 a x) := by
  refine lupX (L := fun n i m => fX11_begins_2 Kc n i m) (K := Kc) 31 (fun i m' => (∀ j, j < i → m'.1 277 j = 0) ∧ (∀ a x, a ≠ 277 → m'.1 a x = m.1 a x)) (by omega) ⟨fun g hg => by omega, fun _ _ _ => rfl⟩ ?_ ?_
  · intro k i a hi ⟨k1, k2⟩
    refine ⟨wI a 277 i 0, ?_, fun g hg => ?_, fun x y hy => by rw [wI_i, if_neg (by omega)]; exact k2 x y hy⟩
    · show fX11_begins_2 Kc (k + 1) (nI i) a = _
      rw [fX11_begins_2, if_pos (c_lt L_31 hi (by omega)), if_pos (inbN (by omega) (by omega)), nI_clamp (by omega), nm_ap, nI_1]
    · rw [wI_i]
      by_cases c : g = i
      · rw [if_pos ⟨rfl, c⟩]
      · rw [if_neg (by omega)]; exact k1 g (by omega)
  · intro k a _
    show fX11_begins_2 Kc (k + 1) (nI 31) a = _
    rw [fX11_begins_2, if_neg (c_nlt L_31 (by omega) (by omega))]
theorem r_begins23 {m : Mem} {Kc : Mem → Option Mem} : ∃ m', fX11_begins_23 Kc FU 0 m = Kc m' ∧ (∀ j, j < 7 → m'.1 277 j = -2) ∧ (∀ a x, ¬ (a = 277 ∧ x < 7) → m'.1 a x = m.1 a x) := by
  refine lupX (L := fun n i m => fX11_begins_23 Kc n i m) (K := Kc) 7 (fun i m' => (∀ j, j < i → m'.1 277 j = -2) ∧ (∀ a x, ¬ (a = 277 ∧ x < 7) → m'.1 a x = m.1 a x)) (by omega) ⟨fun g hg => by omega, fun _ _ _ => rfl⟩ ?_ ?_
  · intro k i a hi ⟨k1, k2⟩
    refine ⟨wI a 277 i (-2), ?_, fun g hg => ?_, fun x y hy => by rw [wI_i, if_neg (by omega)]; exact k2 x y hy⟩
    · show fX11_begins_23 Kc (k + 1) (nI i) a = _
      rw [fX11_begins_23, if_pos (c_lt L_7 hi (by omega)), if_pos (inbN (by omega) (by omega)), nI_clamp (by omega), nm_ap, nI_1]
    · rw [wI_i]
      by_cases c : g = i
      · rw [if_pos ⟨rfl, c⟩]
      · rw [if_neg (by omega)]; exact k1 g (by omega)
  · intro k a _
    show fX11_begins_23 Kc (k + 1) (nI 7) a = _
    rw [fX11_begins_23, if_neg (c_nlt L_7 (by omega) (by omega))]
theorem r_begins {m : Mem} {v : Nat} (h18 : m.1 243 18 = nI v) (v1 : v ≤ 1) : ∃ m', fX11_begins m = some m' ∧ (∀ j, j < 7 → m'.1 277 j = -2) ∧ (∀ j, 7 ≤ j → j < 31 → m'.1 277 j = 0) := by
  unfold fX11_begins
  obtain ⟨m1, e1, a1, a2⟩ := r_begins2 (m := m) (Kc := fun μ2 => fX11_begins_23 (fun μ4 => if inb (μ4.1 243 18) 2 then nm (wI μ4 243 52 (μ4.1 263 (μ4.1 243 18).toNatClampNeg)) fun μ5 => nm (wI μ5 243 53 0) fun μ6 => some μ6 else none) FU 0 μ2)
  obtain ⟨m2, e2, b1, b2⟩ := r_begins23 (m := m1) (Kc := fun μ4 => if inb (μ4.1 243 18) 2 then nm (wI μ4 243 52 (μ4.1 263 (μ4.1 243 18).toNatClampNeg)) fun μ5 => nm (wI μ5 243 53 0) fun μ6 => some μ6 else none)
  have q : m2.1 243 18 = nI v := by rw [b2 _ _ (by omega), a2 _ _ (by omega)]; exact h18
  refine ⟨wI (wI m2 243 52 (m2.1 263 v)) 243 53 0, ?_, fun j hj => ?_, fun j j1 j2 => ?_⟩
  · refine e1.trans (e2.trans ?_)
    show (if inb (m2.1 243 18) 2 then nm (wI m2 243 52 (m2.1 263 (m2.1 243 18).toNatClampNeg)) fun μ5 => nm (wI μ5 243 53 0) fun μ6 => some μ6 else none) = _
    rw [q, if_pos (inbN (by omega) (by omega)), nI_clamp (by omega), nm_ap, nm_ap]
  · rw [wI_i, if_neg (by omega), wI_i, if_neg (by omega)]; exact b1 j hj
  · rw [wI_i, if_neg (by omega), wI_i, if_neg (by omega), b2 _ _ (by omega)]; exact a1 j j2
theorem r_219 {m : Mem} {Kc : Mem → Option (Int32 × Mem)} : ∃ m', fX11_read_219 Kc FU 0 m = Kc m' ∧ (∀ j, j < 3 → m'.1 287 j = 0) ∧ (∀ a x, a ≠ 287 → m'.1 a x = m.1 a x) ∧ (∀ a x, m'.2 a x = m.2 a x) := by
  refine lupX (L := fun n i m => fX11_read_219 Kc n i m) (K := Kc) 3 (fun i m' => (∀ j, j < i → m'.1 287 j = 0) ∧ (∀ a x, a ≠ 287 → m'.1 a x = m.1 a x) ∧ (∀ a x, m'.2 a x = m.2 a x)) (by omega) ⟨fun g hg => by omega, fun _ _ _ => rfl, fun _ _ => rfl⟩ ?_ ?_
  · intro k i a hi ⟨k1, k2, k3⟩
    refine ⟨wI a 287 i 0, ?_, fun g hg => ?_, fun x y hy => by rw [wI_i, if_neg (by omega)]; exact k2 x y hy, fun x y => k3 x y⟩
    · show fX11_read_219 Kc (k + 1) (nI i) a = _
      rw [fX11_read_219, if_pos (c_lt L_3 hi (by omega)), if_pos (inbN (by omega) (by omega)), nI_clamp (by omega), show (0 : Int32) &&& 1 = 0 by decide, nm_ap, nI_1]
    · rw [wI_i]
      by_cases c : g = i
      · rw [if_pos ⟨rfl, c⟩]
      · rw [if_neg (by omega)]; exact k1 g (by omega)
  · intro k a _
    show fX11_read_219 Kc (k + 1) (nI 3) a = _
    rw [fX11_read_219, if_neg (c_nlt L_3 (by omega) (by omega))]
/-- what the reference's half v tells -/
theorem rT_of {K V : Nat → Nat} {N : Nat → List Nat} {P : Nat → Nat} {v : Nat} {R : Rd} {m : Mem} {t b q : Nat} (h : rRd K V N P v R m t b q) : rT v R.T m := by
  obtain ⟨h1, h2, h3, h4, h5, h6, h7, h8, h9, h10, h11, h12, h13, h14, h15⟩ := h.ls
  have g7 := h.g7
  have hb := h.hb
  refine ⟨h.nS, h.nG, fun s hs => (h.lo s hs).1, fun s hs => (h.lo s hs).2, fun g hg => (h.gu g hg).1, fun g hg => (h.gu g hg).2.1, fun g hg => (h.gu g hg).2.2, fun g hg => ?_, h.de, h.se, fun k hk => ?_⟩
  · rw [h.fo g (by omega)]
    congr 1
    apply eq_bits (n := 7) (bs_lt _ _) (Nat.lt_of_lt_of_le (bs_lt _ _) (Nat.pow_le_pow_right (by decide) g7))
    intro o ho
    rw [bs_bit, bs_bit, decide_eq_true ho, Bool.true_and]
    cases c : R.T.fo g o with
    | false => rw [Bool.and_false]
    | true => rw [decide_eq_true (h.fg g o c).2]; rfl
  · obtain ⟨b1, e1, x1, x2, x3⟩ := h.la k hk
    refine ⟨b1, e1, x1, x2, ?_⟩
    rcases x3 with z | ⟨z1, p, z2, z3, z4, z5, z6⟩
    · exact Or.inl z
    · exact Or.inr ⟨z1, p, z2, z3, by omega, z5, by omega⟩
theorem r_good {K V : Nat → Nat} {N : Nat → List Nat} {P : Nat → Nat} {A : Abs} {μ m : Mem} {R : Rd} {t b q : Nat} (h : RInv A μ) (s : rRd K V N P (1 - A.lv) R m t b q) (kq' : Kq μ m) (h2 : m.1 243 2 = 0) (hl : R.lt = none) : ∃ m', fX11_read_j164 (-1) m = some (0, m') ∧ RInv (newA A R.T) m' := by
  have h13 := s.ls.2.2.2.2.1
  have h19 := s.ls.2.2.2.2.2.2.2.2.2.2.2.2.1
  have v1 := s.ls.2.2.2.2.2.2.2.2.2.2.2.2.2.1
  have h15 : m.1 243 15 = 0 := by have := s.lt; rw [hl] at this; exact this
  generalize hv : 1 - A.lv = v at s h19 v1
  unfold fX11_read_j164
  obtain ⟨m20, e20, b1, b2⟩ := r_begins (m := wI (wI m 243 17 (-1)) 243 18 (nI v)) (v := v) (by rw [wI_i, if_pos ⟨rfl, rfl⟩]) v1
  have f20 : Fr WX11_begins (wI (wI m 243 17 (-1)) 243 18 (nI v)) m20 := frX11_begins _ _ e20
  have k20 : ∀ a x, a ≠ 277 → ¬ (a = 243 ∧ (x = 52 ∨ x = 53)) → m20.1 a x = (wI (wI m 243 17 (-1)) 243 18 (nI v)).1 a x ∧ m20.2 a x = m.2 a x := fun a x c1 c2 => f20 a x (by simp [WX11_begins, inW]; omega)
  obtain ⟨m25, e25, c1, c2, c3⟩ := r_219 (m := wI (wI (cp m20 276 0 277 0 31) 243 56 0) 243 62 0) (Kc := fun μ25 => some (0, μ25))
  have k : ∀ a x, ¬ (a = 276 ∨ a = 277 ∨ a = 287) → ¬ (a = 243 ∧ (x = 52 ∨ x = 53 ∨ x = 17 ∨ x = 18 ∨ x = 56 ∨ x = 62)) → m25.1 a x = m.1 a x := by
    intro a x d1 d2
    rw [c2 a x (by omega), wI_i, if_neg (by omega), wI_i, if_neg (by omega), cp_i, if_neg (by omega), (k20 a x (by omega) (by omega)).1, wI_i, if_neg (by omega), wI_i, if_neg (by omega)]
  have kl : ∀ a x, a ≠ 277 → ¬ (a = 243 ∧ (x = 52 ∨ x = 53)) → m25.2 a x = m.2 a x := fun a x d1 d2 => (c3 a x).trans (k20 a x d1 d2).2
  have row : ∀ j, j < 31 → m25.1 276 j = m20.1 277 j := by
    intro j hj
    rw [c2 _ _ (by omega), wI_i, if_neg (by omega), wI_i, if_neg (by omega), cp_i, if_pos (by omega), show 0 + (j - 0) = j by omega]
  have r17 : m25.1 243 17 = -1 := by rw [c2 _ _ (by omega), wI_i, if_neg (by omega), wI_i, if_neg (by omega), cp_i, if_neg (by omega), (k20 _ _ (by omega) (by omega)).1, wI_i, if_neg (by omega), wI_i, if_pos ⟨rfl, rfl⟩]
  have r18 : m25.1 243 18 = nI v := by rw [c2 _ _ (by omega), wI_i, if_neg (by omega), wI_i, if_neg (by omega), cp_i, if_neg (by omega), (k20 _ _ (by omega) (by omega)).1, wI_i, if_pos ⟨rfl, rfl⟩]
  have r56 : m25.1 243 56 = 0 := by rw [c2 _ _ (by omega), wI_i, if_neg (by omega), wI_i, if_pos ⟨rfl, rfl⟩]
  have r62 : m25.1 243 62 = 0 := by rw [c2 _ _ (by omega), wI_i, if_pos ⟨rfl, rfl⟩]
  refine ⟨m25, ?_, by rw [k _ _ (by omega) (by omega)]; exact h2, fun j hj => absurd (show j < 0 from hj) (by omega), r17, by show m25.1 243 18 = nI (1 - A.lv); rw [hv]; exact r18, ?_, ?_, r56, fun i hi => absurd (show i < 0 from hi) (by omega), c1, fun i s _ z => (by cases z), r62, fun i hi => absurd (show i < 0 from hi) (by omega), fun i hi => absurd (show i < 0 from hi) (by omega), fun w hw => ?_⟩
  · rw [nm_ap, if_neg (show ¬ 0 < (wI m 243 17 (-1)).1 243 13 by rw [wI_i, if_neg (by omega), h13]; decide), if_neg (show ¬ 0 < (wI m 243 17 (-1)).1 243 15 by rw [wI_i, if_neg (by omega), h15]; decide), show (wI m 243 17 (-1)).1 243 19 = nI v by rw [wI_i, if_neg (by omega)]; exact h19, nm_ap, e20, bind_s, keepsRow_eq, bind_s, nm_ap, nm_ap]
    exact e25
  · show rT (1 - A.lv) R.T m25
    rw [hv]
    exact (rT_of s).sm (fun a x a1 a2 => ⟨k a x (by omega) (by omega), kl a x (by omega) (by omega)⟩)
  · refine ⟨fun g hg => ?_, fun g hg => ?_, fun g hg => ?_, fun g hg => ?_, fun g hg => ?_, ?_, ?_⟩
    · rw [Nat.zero_add, row _ (by omega), b1 g hg]; rfl
    · rw [Nat.zero_add, row _ (by omega), b2 _ (by omega) (by omega)]; rfl
    · rw [Nat.zero_add, row _ (by omega), b2 _ (by omega) (by omega)]; rfl
    · rw [Nat.zero_add, row _ (by omega), b2 _ (by omega) (by omega)]; rfl
    · rw [Nat.zero_add, row _ (by omega), b2 _ (by omega) (by omega)]; rfl
    · rw [Nat.zero_add, row _ (by omega), b2 _ (by omega) (by omega)]; rfl
    · rw [Nat.zero_add, row _ (by omega), b2 _ (by omega) (by omega)]; rfl
  · rw [kl _ _ (by omega) (by omega), (kq' 250 w (by unfold kq; omega)).2]; exact h.ws w hw
theorem kq_t : ∀ a x, kq a x → ¬ inW WX11_tellOne a x := by
  intro a x h
  unfold kq at h
  simp [WX11_tellOne, inW]
  omega
theorem r_read {A : Abs} {μ : Mem} {b : Nat → Nat} (hA : okA A) (h : RInv A μ) (hb : ∀ j, b j < 256) (hbt : ∀ j, A.tb j = bI (b j)) :
    (∀ R t', tapR b A.tn = .ok (R, t') → R.lt = none → ∃ m, fX11_read μ = some (0, m) ∧ RInv (newA A R.T) m) ∧ (∀ R t' f s, tapR b A.tn = .ok (R, t') → R.lt = some (f, s) → ∃ m, fX11_read μ = some (nI f, m) ∧ RInv (fltA A (nI (tS b A.tn s))) m) ∧ (∀ g t', tapR b A.tn = .error (g, t') → ∃ m, fX11_read μ = some (nI g, m) ∧ RInv (fltA A (nI (tS b A.tn t'))) m) := by
  obtain ⟨m0, e0, s0, kp0, kq0, z0⟩ := r_start hA h hb hbt
  obtain ⟨q1, q2⟩ := r_112 (Kc := Kfin) (tK_34 hb) (fun t => Nat.lt_trans (tW_lt hb t) (by omega)) (fun t z => (tK_2 hb z).2) (gro_t hA.tn) 402 FU Rd0 m0 0 _ _ (by omega) (by unfold FU; omega) s0 kp0
  refine ⟨fun R t' z l => ?_, fun R t' f s z l => ?_, fun g t' z => ?_⟩
  · obtain ⟨m1, b1, c1, x1, s1, kp1, fr⟩ := q1 R t' z
    have lt := s1.lt
    rw [l] at lt
    obtain ⟨m2, y1, y2⟩ := r_good h s1 (kq0.fr fr kq_t) (by rw [(fr 243 2 (by simp [WX11_tellOne, inW])).1]; exact z0) l
    refine ⟨m2, ?_, y2⟩
    rw [e0, x1]
    unfold Kfin
    rw [if_neg (show ¬ 0 < m1.1 243 13 by rw [s1.ls.2.2.2.2.1]; decide), if_neg (show ¬ 0 < m1.1 243 15 by rw [show m1.1 243 15 = 0 from lt]; decide), y1]
  · obtain ⟨m1, b1, c1, x1, s1, kp1, fr⟩ := q1 R t' z
    have lt := s1.lt
    rw [l] at lt
    obtain ⟨l1, l2, l3, l4, l5⟩ := lt
    have l1' : m1.1 243 15 = nI f := l1
    have l2' : m1.1 243 16 = nI (tS b A.tn s) := l2
    have l3' : 1 ≤ f := l3
    have l4' : f ≤ 5 := l4
    have pos : 0 < nI f := by rw [L_0]; exact nI_lt (by omega) (by omega)
    refine ⟨_, ?_, r_flt (p := nI (tS b A.tn s)) hA h (kq0.fr fr kq_t) kp1 (by rw [(fr 243 2 (by simp [WX11_tellOne, inW])).1]; exact z0)⟩
    rw [e0, x1]
    unfold Kfin
    rw [if_neg (show ¬ 0 < m1.1 243 13 by rw [s1.ls.2.2.2.2.1]; decide), l1', if_pos pos, l2']
    unfold fX11_read_j164
    rw [nm_ap, if_neg (show ¬ 0 < (wI m1 243 17 (nI (tS b A.tn s))).1 243 13 by rw [wI_i, if_neg (by omega), s1.ls.2.2.2.2.1]; decide), show (wI m1 243 17 (nI (tS b A.tn s))).1 243 15 = nI f by rw [wI_i, if_neg (by omega)]; exact l1', if_pos pos]
  · obtain ⟨m1, x1, x2, fr⟩ := q2 g t' z
    have p := x2.p.1
    refine ⟨_, ?_, r_flt (p := nI (tS b A.tn t')) hA h (kq0.fr fr kq_t) x2.2.2.2.2.2 (by rw [(fr 243 2 (by simp [WX11_tellOne, inW])).1]; exact z0)⟩
    rw [e0, x1]
    unfold Kfin
    rw [if_pos p, x2.2.2.1]
    unfold fX11_read_j164
    rw [nm_ap, show (wI m1 243 17 (nI (tS b A.tn t'))).1 243 13 = nI g by rw [wI_i, if_neg (by omega)]; exact x2.2.1, if_pos (by rw [← x2.2.1]; exact p)]
