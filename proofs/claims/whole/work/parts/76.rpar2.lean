/-! ===== the reference reads a term ===== -/
abbrev Kf : Mem → Option Mem := fun μ29 => some μ29
def EB (n g : Nat) (m : Mem) : Option Mem := fX11_expression_96 0 (fun μ15 => fX11_expression_j145_12 (fun z0 zm => fX11_expression_12 0 Kf n z0 zm) Kf 0 μ15) g m
def KA (n : Nat) : Mem → Option Mem := fun μ8 => (fX11_unit μ8).bind fun q9 => if 0 < (q9.1 243 13) then some q9 else EB n FU q9
def EA (n f : Nat) (m : Mem) : Option Mem := fX11_expression_23 0 (KA n) f m
theorem exp12 {n : Nat} {m : Mem} (h : m.1 243 13 = 0) : fX11_expression_12 0 Kf (n + 1) 1 m = EA n FU m := by
  rw [fX11_expression_12, if_neg (by decide), if_pos h]
  rfl
theorem exp12_f {n : Nat} {m : Mem} (h : ¬ m.1 243 13 = 0) : fX11_expression_12 0 Kf (n + 1) 1 m = some m := by
  rw [fX11_expression_12, if_neg (by decide), if_neg h]
def rFl (P : Nat → Nat) (B q : Nat) (m0 : Mem) (X : Option Mem) (f t : Nat) : Prop := ∃ m', X = some m' ∧ m'.1 243 13 = nI f ∧ m'.1 243 14 = nI (P t) ∧ FQ B q m0 m'
theorem f12_pos {f : Nat} (h : f = 1 ∨ f = 2) : (0 : Int32) < nI f ∧ ¬ nI f = 0 := by rcases h with e | e <;> subst e <;> decide
theorem split6 : ∀ w : List Nat, ∃ p r, w = p ++ r ∧ (∀ v, v ∈ p → v ≠ 6) ∧ (r = [] ∨ ∃ x r', r = x :: r' ∧ x = 6)
  | [] => ⟨[], [], rfl, fun v hv => (by simp at hv), Or.inl rfl⟩
  | v :: w => by
    by_cases c : v = 6
    · exact ⟨[], v :: w, rfl, fun v hv => (by simp at hv), Or.inr ⟨v, w, rfl, c⟩⟩
    · obtain ⟨p, r, e, h1, h2⟩ := split6 w
      refine ⟨v :: p, r, by rw [e]; rfl, ?_, h2⟩
      intro z hz
      rcases List.mem_cons.1 hz with q | q
      · rw [q]; exact c
      · exact h1 z q
theorem len6 {K V : Nat → Nat} {N : Nat → List Nat} {P : Nat → Nat} {B : Nat} {m0 : Mem} {q : Nat} {φ : Int32} {m : Mem} {t : Nat} {w : List Nat} {o : Nat} {c : Cd} (h : rES K V N P B m0 q φ m t w o c) : w.length ≤ 30 := h.2.2.2.2.2.2.2.2.2.2.1
/-- all that waits comes out, also behind a fault -/
theorem r_outAll {K V : Nat → Nat} {N : Nat → List Nat} {P : Nat → Nat} {B : Nat} {m0 : Mem} {q : Nat} {φ : Int32} {m : Mem} {t : Nat} {w : List Nat} {o : Nat} {c : Cd} (hB : B + 400 < 840) (h : rES K V N P B m0 q φ m t w o c) : ∃ m', fX11_comesOut 0 m = some m' ∧ m'.1 243 13 = φ ∧ m'.1 243 14 = m.1 243 14 ∧ FQ B q m0 m' := by
  obtain ⟨p, r, e, h1, h2⟩ := split6 w
  have hl := len6 h
  rw [e] at h hl
  rw [List.length_append] at hl
  obtain ⟨m', e1, e2⟩ := r_comesOut hB 0 p r FU m t o c (by unfold FU; omega) h (fun v hv => ⟨h1 v hv, Or.inl rfl⟩) (by
    rcases h2 with z | ⟨x, r', z, y⟩
    · exact Or.inl z
    · exact Or.inr ⟨x, r', z, Or.inl y⟩)
  have fr : Fr WX11_comesOut m m' := frX11_comesOut _ _ _ e1
  refine ⟨m', e1, e2.2.2.2.2.1, (fr 243 14 (by simp [WX11_comesOut, inW])).1, e2.2.2.2.2.2.2.2.2.2.2.2.2.2.2.1⟩
theorem rES.fl {K V : Nat → Nat} {N : Nat → List Nat} {P : Nat → Nat} {B : Nat} {m0 : Mem} {q : Nat} {φ : Int32} {m : Mem} {t : Nat} {w : List Nat} {o : Nat} {c : Cd} (h : rES K V N P B m0 q φ m t w o c) (x y : Int32) : rES K V N P B m0 q x (wI (wI m 243 13 x) 243 14 y) t w o c := by
  obtain ⟨a1, a2, a3, a4, a5, a6, a7, a8, a9, a10, a11, a12, a13, a14, a15, a16⟩ := h
  have k : ∀ z j, ¬ (z = 243 ∧ (j = 13 ∨ j = 14)) → (wI (wI m 243 13 x) 243 14 y).1 z j = m.1 z j := by
    intro z j hz
    rw [wI_i, if_neg (by omega), wI_i, if_neg (by omega)]
  refine ⟨a1.fr (fun z j z1 z2 => ⟨k z j (by omega), rfl⟩), by rw [k _ _ (by omega)]; exact a2, a3, a4, by rw [wI_i, if_neg (by omega), wI_i, if_pos ⟨rfl, rfl⟩], by rw [k _ _ (by omega)]; exact a6, a7, by rw [k _ _ (by omega)]; exact a8, wtk_ext a9 (fun z _ => k _ _ (by omega)), a10, a11, by rw [k _ _ (by omega)]; exact a12, a13, rCode_ext a14 (fun z _ _ => ⟨k _ _ (by omega), k _ _ (by omega)⟩), (a15.wI (by simp [WQ, WX11_expression, inW])).wI (by simp [WQ, WX11_expression, inW]), fun z hz => ?_⟩
  rw [k _ _ (by omega), k _ _ (by omega)]
  exact a16 z hz
theorem EB_f {K V : Nat → Nat} {N : Nat → List Nat} {P : Nat → Nat} {B : Nat} {m0 : Mem} {q : Nat} {n g f t0 : Nat} {m : Mem} {t : Nat} {w : List Nat} {o : Nat} {c : Cd} (hB : B + 400 < 840) (hf : f = 1 ∨ f = 2) (h : rES K V N P B m0 q (nI f) m t w o c) (hp : m.1 243 14 = nI (P t0)) : rFl P B q m0 (EB n (g + 1) m) f t0 := by
  have f13 := h.2.2.2.2.1
  have ff := f12_pos hf
  have nf : ¬ m.1 243 13 = 0 := by rw [f13]; exact ff.2
  obtain ⟨m', e1, e2, e3, e4⟩ := r_outAll hB h
  refine ⟨m', ?_, e2, e3.trans hp, e4⟩
  unfold EB
  rw [fX11_expression_96, r_is_f nf, bind_s, if_neg Bool.false_ne_true]
  unfold fX11_expression_j145_12
  rw [r_is_f nf, bind_s, if_neg Bool.false_ne_true, r_is_f nf, bind_s, if_neg Bool.false_ne_true, r_is_f nf, bind_s, if_neg Bool.false_ne_true, r_is_f nf, bind_s, if_neg Bool.false_ne_true]
  unfold fX11_expression_j186_12
  rw [if_pos rfl, r_fail_f (by rw [f13]; exact ff.1), bind_s, e1, bind_s]
  split <;> rfl
def rU (K V : Nat → Nat) (N : Nat → List Nat) (P : Nat → Nat) (B : Nat) (m0 : Mem) (q e : Nat) (U : Nat → PR Cd) : Prop := ∀ n f m t w o c, rES K V N P B m0 q 0 m t w o c → w.length ≤ 3 * o + 2 → o + e = 6 → e + 1 < f → 1000 ≤ n + t →
  (∀ cu t', U t = .ok (cu, t') → ∃ g n' m', EA n f m = EB n' g m' ∧ 4096 ≤ g + e ∧ 1000 ≤ n' + t' ∧ rES K V N P B m0 q 0 m' t' w o (c ++ cu))
  ∧ (∀ fl t', U t = .error (fl, t') → rFl P B q m0 (EA n f m) fl t')
def pend (K : Nat → Nat) (s : Nat) (p : List Nat) (t : Nat) : Prop := (∀ v, v ∈ p → (v = 10 ∨ v = 15) ∨ (s = 6 ∧ (v = 8 ∨ v = 9))) ∧ K t ≠ 8 ∧ K t ≠ 9 ∧ (s = 6 → K t ≠ 6 ∧ K t ≠ 7) ∧ p.length ≤ (if s = 6 then 2 else 1)
def rPp (K V : Nat → Nat) (N : Nat → List Nat) (P : Nat → Nat) (B : Nat) (m0 : Mem) (q e s : Nat) (U : Nat → PR Cd) : Prop := ∀ n f m t w o c, rES K V N P B m0 q 0 m t w o c → w.length ≤ 3 * o + (if s = 6 then 0 else 1) → o + e = 6 → e + 1 < f → 1000 ≤ n + t → (w = [] ∨ ∃ x r, w = x :: r ∧ (x = 6 ∨ (s ≠ 6 ∧ (x = 8 ∨ x = 9)))) →
  (∀ cu t', U t = .ok (cu, t') → ∃ g n' m' p e', EA n f m = EB n' g m' ∧ 4096 ≤ g + e ∧ 1000 ≤ n' + t' ∧ rES K V N P B m0 q 0 m' t' (p ++ w) o (c ++ e') ∧ cu = e' ++ flu p ∧ pend K s p t')
  ∧ (∀ fl t', U t = .error (fl, t') → rFl P B q m0 (EA n f m) fl t')
/-- behind an operand, a sign: the waiting ones come out, the sign waits, and a new operand is read -/
theorem EB_sign {K V : Nat → Nat} {N : Nat → List Nat} {P : Nat → Nat} {B : Nat} {m0 : Mem} {q : Nat} {n g s : Nat} {m : Mem} {t : Nat} {p w : List Nat} {o : Nat} {c : Cd} (hB : B + 400 < 840) (hs : s = 6 ∨ s = 8) (hK : ∀ t, K t < 34) (k : K t = s ∨ K t = s + 1) (h : rES K V N P B m0 q 0 m t (p ++ w) o c) (hp : ∀ v, v ∈ p → (v = 10 ∨ v = 15) ∨ (s = 6 ∧ (v = 8 ∨ v = 9))) (hw : w = [] ∨ ∃ x r, w = x :: r ∧ (x = 6 ∨ (s ≠ 6 ∧ (x = 8 ∨ x = 9)))) (hl : w.length ≤ 20) (hn : 1 ≤ n) :
    (t < 400 → ∃ m', EB n (g + 1) m = EA (n - 1) FU m' ∧ rES K V N P B m0 q 0 m' (t + 1) (kR (K t) :: w) o (c ++ flu p)) ∧ (t = 400 → rFl P B q m0 (EB n (g + 1) m) 2 t) := by
  have hh := h
  obtain ⟨a1, a2, a3, a4, a5, a6, a7, a8, a9, a10, a11, a12, a13, a14, a15, a16⟩ := h
  have tkk := a1 t a3 a4
  have is : ∀ x, x < 2 ^ 31 → fX11_is (nI x) m = some (decide (kR (K t) = x)) := fun x hx => r_is a3 a2 a5 tkk.1 (hK t) hx
  have ka := kR_a (K t) (hK t)
  rw [List.length_append] at a11
  -- what comes out
  obtain ⟨m1, e1, e2⟩ := r_comesOut hB (if s = 6 then 0 else 1) p w FU m t o c (by unfold FU; omega) hh (by
      intro v hv
      rcases hp v hv with z | ⟨z, y⟩
      · exact ⟨by omega, Or.inr (by omega)⟩
      · exact ⟨by omega, Or.inl (by rw [if_pos z])⟩) (by
      rcases hw with z | ⟨x, r, z, y⟩
      · exact Or.inl z
      · refine Or.inr ⟨x, r, z, ?_⟩
        rcases y with y | ⟨y1, y2⟩
        · exact Or.inl y
        · exact Or.inr ⟨by rw [if_neg y1]; decide, y2⟩)
  obtain ⟨b1, b2, b3, b4, b5, b6, b7, b8, b9, b10, b11, b12, b13, b14, b15, b16⟩ := e2
  have tk1 := b1 t b3 b4
  have bt : inb (nI t) 403 := inbN (by omega) (by omega)
  have ct : (nI t).toNatClampNeg = t := nI_clamp (by omega)
  have bw : inb (nI w.length) 64 := inbN (by omega) (by omega)
  have cw : (nI w.length).toNatClampNeg = w.length := nI_clamp (by omega)
  have x46 : (wI m1 273 w.length (nI (kR (K t)))).1 243 46 = nI w.length := by rw [wI_i, if_neg (by omega)]; exact b8
  -- the sign waits
  have j234 : fX11_expression_j234_12 (fun z0 zm => fX11_expression_12 0 Kf n z0 zm) Kf 0 1 (if s = 6 then 0 else 1) m = (fX11_goesOn (wI (wI m1 273 w.length (nI (kR (K t)))) 243 46 (nI (w.length + 1)))).bind fun q21 => fX11_expression_12 0 Kf n 1 q21 := by
    unfold fX11_expression_j234_12
    rw [show fX11_comesOut (if s = 6 then 0 else 1) m = some m1 from e1, bind_s, b2, b8]
    simp only [if_pos bt, ct, if_pos bw, cw, nm_ap, tk1.1, x46, nI_1]
  have go : EB n (g + 1) m = (fX11_goesOn (wI (wI m1 273 w.length (nI (kR (K t)))) 243 46 (nI (w.length + 1)))).bind fun q21 => fX11_expression_12 0 Kf n 1 q21 := by
    rw [← j234]
    unfold EB
    rw [fX11_expression_96, show (7 : Int32) = nI 7 from rfl, is 7 (by omega), bind_s, if_neg (by rw [decide_eq_true_eq, ka.2.1]; omega)]
    unfold fX11_expression_j145_12 fX11_expression_j186_12
    rw [show (8 : Int32) = nI 8 from rfl, show (9 : Int32) = nI 9 from rfl, show (10 : Int32) = nI 10 from rfl, show (15 : Int32) = nI 15 from rfl, is 8 (by omega), bind_s, is 9 (by omega), bind_s, is 10 (by omega), bind_s, is 15 (by omega), bind_s]
    simp only [decide_eq_true_eq, ka.2.2.1, ka.2.2.2.1, ka.2.2.2.2.1, ka.2.2.2.2.2, bind_s, show ¬ (1 : Int32) = 0 by decide, if_false]
    rcases hs with z | z
    · subst z
      rw [if_pos rfl]
      rcases k with y | y
      · rw [y]; simp
      · rw [y]; simp
    · subst z
      rw [if_neg (by omega)]
      rcases k with y | y
      · rw [y]; simp
      · rw [y]; simp
  have kv : kR (K t) = 8 ∨ kR (K t) = 9 ∨ kR (K t) = 10 ∨ kR (K t) = 15 := by
    rw [ka.2.2.1, ka.2.2.2.1, ka.2.2.2.2.1, ka.2.2.2.2.2]; omega
  have cell : ∀ z j, ¬ (z = 273 ∧ j = w.length) → ¬ (z = 243 ∧ j = 46) → (wI (wI m1 273 w.length (nI (kR (K t)))) 243 46 (nI (w.length + 1))).1 z j = m1.1 z j := by
    intro z j z1 z2
    rw [wI_i, if_neg z2, wI_i, if_neg z1]
  generalize hm2 : wI (wI m1 273 w.length (nI (kR (K t)))) 243 46 (nI (w.length + 1)) = m2 at go cell
  have f2 : FQ B q m0 m2 := by
    subst hm2
    exact (b15.wI (by simp [WQ, WX11_expression, inW])).wI (by simp [WQ, WX11_expression, inW])
  have m2l : ∀ z j, m2.2 z j = m1.2 z j := by subst hm2; intro z j; rfl
  have t2 : m2.1 243 11 = nI t := by rw [cell _ _ (by omega) (by omega)]; exact b2
  have f13 : m2.1 243 13 = 0 := by rw [cell _ _ (by omega) (by omega)]; exact b5
  have p2 : m2.1 247 t = nI (P t) := by rw [cell _ _ (by omega) (by omega)]; exact tk1.2.1
  constructor
  · intro lt
    refine ⟨wI m2 243 11 (nI (t + 1)), ?_, ?_⟩
    · rw [go, r_goesOn lt t2, bind_s, show n = (n - 1) + 1 by omega, exp12 (by rw [wI_i, if_neg (by omega)]; exact f13)]
      rfl
    · have c3 : ∀ z j, ¬ (z = 273 ∧ j = w.length) → ¬ (z = 243 ∧ (j = 46 ∨ j = 11)) → (wI m2 243 11 (nI (t + 1))).1 z j = m1.1 z j := by
        intro z j z1 z2
        rw [wI_i, if_neg (by omega), cell _ _ z1 (by omega)]
      refine ⟨b1.fr (fun z j z1 z2 => ⟨c3 z j (by omega) (by omega), m2l z j⟩), by rw [wI_i, if_pos ⟨rfl, rfl⟩], by omega, ?_, by rw [c3 _ _ (by omega) (by omega)]; exact b5, by rw [c3 _ _ (by omega) (by omega)]; exact b6, b7, ?_, ⟨?_, wtk_ext b9 (fun z hz => c3 _ _ (by omega) (by omega))⟩, ?_, by rw [List.length_cons]; omega, by rw [c3 _ _ (by omega) (by omega)]; exact b12, by rw [List.length_cons]; omega, rCode_ext b14 (fun z _ _ => ⟨c3 _ _ (by omega) (by omega), c3 _ _ (by omega) (by omega)⟩), f2.wI (by simp [WQ, WX11_expression, inW]), ?_⟩
      · intro j hj
        rcases (show j < t ∨ j = t by omega) with z | z
        · exact b4 j z
        · rw [z]; omega
      · rw [wI_i, if_neg (by omega), ← hm2, wI_i, if_pos ⟨rfl, rfl⟩, List.length_cons]
      · rw [wI_i, if_neg (by omega), ← hm2, wI_i, if_neg (by omega), wI_i, if_pos ⟨rfl, rfl⟩]
      · intro v hv
        rcases List.mem_cons.1 hv with z | z
        · rw [z]; omega
        · exact b10 v z
      · intro z hz
        rw [c3 _ _ (by omega) (by omega), c3 _ _ (by omega) (by omega)]
        exact b16 z hz
  · intro t4
    refine ⟨wI (wI m2 243 13 2) 243 14 (nI (P t)), ?_, by rw [wI_i, if_neg (by omega), wI_i, if_pos ⟨rfl, rfl⟩]; rfl, by rw [wI_i, if_pos ⟨rfl, rfl⟩], (f2.wI (by simp [WQ, WX11_expression, inW])).wI (by simp [WQ, WX11_expression, inW])⟩
    rw [go, r_goesOn_f t4 t2 f13 p2, bind_s, show n = (n - 1) + 1 by omega, exp12_f (by rw [wI_i, if_neg (by omega), wI_i, if_pos ⟨rfl, rfl⟩]; decide)]
