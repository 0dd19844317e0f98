/-! ===== the reference: the whole row, and what comes before it ===== -/
theorem r_112 {K V : Nat → Nat} {N : Nat → List Nat} {P : Nat → Nat} {v : Nat} {m0 : Mem} {Kc : Mem → Option (Int32 × Mem)} (hK : ∀ t, K t < 34) (hV : ∀ t, V t < 2 ^ 31) (hN : ∀ t, K t = 2 → ltOk (N t)) (hP : gro K P) : ∀ f n R m t b q, 400 < t + f → f < n → rRd K V N P v R m t b q → KP v m0 m →
    (∀ R' t', tapP K V N f R t = .ok (R', t') → ∃ m' b' q', fX11_read_112 Kc n m = Kc m' ∧ rRd K V N P v R' m' t' b' q' ∧ KP v m0 m' ∧ Fr WX11_tellOne m m') ∧ (∀ g t', tapP K V N f R t = .error (g, t') → ∃ m', fX11_read_112 Kc n m = Kc m' ∧ rF P v m0 m' g t' ∧ Fr WX11_tellOne m m')
  | 0, n, R, m, t, b, q, h, _, s, _ => absurd s.ls.2.2.1 (by omega)
  | f + 1, 0, R, m, t, b, q, _, h, _, _ => absurd h (by omega)
  | f + 1, n + 1, R, m, t, b, q, h, hn, s, kp => by
    have h3 := s.ls.2.2.1
    have tk := s.ls.1 t h3 s.ls.2.2.2.1
    rw [tapP, fX11_read_112, if_pos s.ls.2.2.2.2.1, show fX11_is 0 m = some (decide (kR (K t) = 0)) from r_is (x := 0) h3 s.ls.2.1 s.ls.2.2.2.2.1 tk.1 (hK t) (by omega), bind_s]
    by_cases c : K t = 0
    · rw [if_pos c, if_pos (decide_eq_true ((kR_b _ (hK t)).2.2.2.2.2.2 c))]
      exact ⟨fun R' t' z => (by cases z; exact ⟨m, b, q, rfl, s, kp, Fr.rfl⟩), fun g t' z => (by cases z)⟩
    · rw [if_neg c, if_neg (by rw [decide_eq_true_eq]; exact fun z => c ((kR_b _ (hK t)).2.2.2.2.2.1 z))]
      obtain ⟨q1, q2⟩ := r_tellOne hK hV hN hP s kp
      have gl := (gA_tel (K := K) (V := V) (N := N) (R := R) h3).2
      cases e1 : telP K V N R t with
      | error x =>
        obtain ⟨g0, t0⟩ := x
        obtain ⟨m', x1, x2⟩ := q2 g0 t0 e1
        have x2' : rF P v m0 m' g0 t0 := x2
        have fr : Fr WX11_tellOne m m' := frX11_tellOne m _ x1
        rw [x1, bind_s]
        obtain ⟨k, rfl⟩ : ∃ k, n = k + 1 := ⟨n - 1, by omega⟩
        refine ⟨fun R' t' z => (by cases z), fun g t' z => ?_⟩
        cases z
        exact ⟨m', by rw [fX11_read_112, if_neg x2'.p.2], x2', fr⟩
      | ok x =>
        obtain ⟨R1, t1⟩ := x
        obtain ⟨m1, x1, b1, q1', s1, kp1⟩ := q1 R1 t1 e1
        have fr : Fr WX11_tellOne m m1 := frX11_tellOne m _ x1
        have lt := gl R1 t1 e1
        rw [x1, bind_s]
        obtain ⟨r1, r2⟩ := r_112 (Kc := Kc) hK hV hN hP f n R1 m1 t1 b1 q1' (by omega) (by omega) s1 kp1
        refine ⟨fun R' t' z => ?_, fun g t' z => ?_⟩
        · obtain ⟨m', b', q', y1, y2, y3, y4⟩ := r1 R' t' z
          exact ⟨m', b', q', y1, y2, y3, fr.trans y4⟩
        · obtain ⟨m', y1, y2, y3⟩ := r2 g t' z
          exact ⟨m', y1, y2, fr.trans y3⟩
theorem r_pl38 {v : Nat} {m : Mem} {Kc : Mem → Option Mem} (hv : v ≤ 1) : ∃ m', fX11_plain_38 (nI v) Kc FU 0 m = Kc m' ∧ (∀ g, g < 7 → m'.1 260 (7 * v + g) = 0) ∧ (∀ a x, ¬ (a = 260 ∧ 7 * v ≤ x ∧ x < 7 * v + 7) → m'.1 a x = m.1 a x) := by
  refine lupX (L := fun n i m => fX11_plain_38 (nI v) Kc n i m) (K := Kc) 7 (fun i m' => (∀ g, g < i → m'.1 260 (7 * v + g) = 0) ∧ (∀ a x, ¬ (a = 260 ∧ 7 * v ≤ x ∧ x < 7 * v + 7) → m'.1 a x = m.1 a x)) (by omega) ⟨fun g hg => by omega, fun _ _ _ => rfl⟩ ?_ ?_
  · intro n i a hi ⟨k1, k2⟩
    refine ⟨wI a 260 (7 * v + i) 0, ?_, fun g hg => ?_, fun x y hy => by rw [wI_i, if_neg (by omega)]; exact k2 x y hy⟩
    · show fX11_plain_38 (nI v) Kc (n + 1) (nI i) a = _
      rw [fX11_plain_38, if_pos (c_lt L_7 hi (by omega)), show (7 : Int32) * nI v + nI i = nI (7 * v + i) from nI_mula 7 v i, if_pos (inbN (by omega) (by omega)), nI_clamp (by omega), nm_ap, nI_1]
    · rw [wI_i]
      by_cases c : g = i
      · rw [if_pos ⟨rfl, by omega⟩]
      · rw [if_neg (by omega)]; exact k1 g (by omega)
  · intro n a ⟨k1, k2⟩
    show fX11_plain_38 (nI v) Kc (n + 1) (nI 7) a = _
    rw [fX11_plain_38, if_neg (c_nlt L_7 (by omega) (by omega))]
theorem r_pl64 {v : Nat} {m : Mem} {Kc : Mem → Option Mem} (hv : v ≤ 1) : ∃ m', fX11_plain_64 (nI v) Kc FU 0 m = Kc m' ∧ (∀ g, g < 4 → m'.1 264 (4 * v + g) = 0 ∧ m'.1 265 (4 * v + g) = 0) ∧ (∀ a x, ¬ ((a = 264 ∨ a = 265) ∧ 4 * v ≤ x ∧ x < 4 * v + 4) → m'.1 a x = m.1 a x) := by
  refine lupX (L := fun n i m => fX11_plain_64 (nI v) Kc n i m) (K := Kc) 4 (fun i m' => (∀ g, g < i → m'.1 264 (4 * v + g) = 0 ∧ m'.1 265 (4 * v + g) = 0) ∧ (∀ a x, ¬ ((a = 264 ∨ a = 265) ∧ 4 * v ≤ x ∧ x < 4 * v + 4) → m'.1 a x = m.1 a x)) (by omega) ⟨fun g hg => by omega, fun _ _ _ => rfl⟩ ?_ ?_
  · intro n i a hi ⟨k1, k2⟩
    have hb : inb (nI (4 * v + i)) 8 := inbN (by omega) (by omega)
    have hcl : (nI (4 * v + i)).toNatClampNeg = 4 * v + i := nI_clamp (by omega)
    refine ⟨wI (wI a 264 (4 * v + i) 0) 265 (4 * v + i) 0, ?_, fun g hg => ?_, fun x y hy => by rw [wI_i, if_neg (by omega), wI_i, if_neg (by omega)]; exact k2 x y hy⟩
    · show fX11_plain_64 (nI v) Kc (n + 1) (nI i) a = _
      rw [fX11_plain_64, if_pos (c_lt L_4 hi (by omega)), show (4 : Int32) * nI v + nI i = nI (4 * v + i) from nI_mula 4 v i]
      simp only [if_pos hb, hcl, nm_ap, nI_1]
    · rw [wI_i, wI_i, wI_i, wI_i]
      by_cases c : g = i
      · rw [if_neg (by omega), if_pos ⟨rfl, by omega⟩, if_pos ⟨rfl, by omega⟩]; exact ⟨rfl, rfl⟩
      · rw [if_neg (by omega), if_neg (by omega), if_neg (by omega), if_neg (by omega)]; exact k1 g (by omega)
  · intro n a ⟨k1, k2⟩
    show fX11_plain_64 (nI v) Kc (n + 1) (nI 4) a = _
    rw [fX11_plain_64, if_neg (c_nlt L_4 (by omega) (by omega))]
theorem r_plain {v : Nat} {m : Mem} (hv : v ≤ 1) : ∃ m', fX11_plain (nI v) m = some m' ∧ m'.1 253 v = 0 ∧ m'.1 256 v = 0 ∧ m'.1 261 v = 0 ∧ m'.1 262 v = 100 ∧ m'.1 263 v = 0 ∧ (∀ g, g < 7 → m'.1 260 (7 * v + g) = 0) ∧ (∀ g, g < 4 → m'.1 264 (4 * v + g) = 0 ∧ m'.1 265 (4 * v + g) = 0) ∧ KP v m m' := by
  have hb : inb (nI v) 2 := inbN (by omega) (by omega)
  have hcl : (nI v).toNatClampNeg = v := nI_clamp (by omega)
  unfold fX11_plain
  simp only [if_pos hb, hcl, nm_ap]
  obtain ⟨m1, e1, a1, a2⟩ := r_pl38 (v := v) (m := wI (wI (wI (wI (wI m 253 v 0) 256 v 0) 261 v 0) 262 v 100) 263 v 0) (Kc := fun μ7 => fX11_plain_64 (nI v) (fun μ10 => some μ10) FU 0 μ7) hv
  obtain ⟨m2, e2, b1, b2⟩ := r_pl64 (v := v) (m := m1) (Kc := fun μ10 => some μ10) hv
  refine ⟨m2, e1.trans e2, ?_, ?_, ?_, ?_, ?_, fun g hg => ?_, b1, fun a x hx => ?_⟩
  · rw [b2 _ _ (by omega), a2 _ _ (by omega), wI_i, if_neg (by omega), wI_i, if_neg (by omega), wI_i, if_neg (by omega), wI_i, if_neg (by omega), wI_i, if_pos ⟨rfl, rfl⟩]
  · rw [b2 _ _ (by omega), a2 _ _ (by omega), wI_i, if_neg (by omega), wI_i, if_neg (by omega), wI_i, if_neg (by omega), wI_i, if_pos ⟨rfl, rfl⟩]
  · rw [b2 _ _ (by omega), a2 _ _ (by omega), wI_i, if_neg (by omega), wI_i, if_neg (by omega), wI_i, if_pos ⟨rfl, rfl⟩]
  · rw [b2 _ _ (by omega), a2 _ _ (by omega), wI_i, if_neg (by omega), wI_i, if_pos ⟨rfl, rfl⟩]
  · rw [b2 _ _ (by omega), a2 _ _ (by omega), wI_i, if_pos ⟨rfl, rfl⟩]
  · rw [b2 _ _ (by omega)]; exact a1 g hg
  · unfold kc at hx
    rw [b2 _ _ (by omega), a2 _ _ (by omega), wI_i, if_neg (by omega), wI_i, if_neg (by omega), wI_i, if_neg (by omega), wI_i, if_neg (by omega), wI_i, if_neg (by omega)]
theorem r_copy {m : Mem} {n : Nat} {f : Nat → Int32} {Kc : Mem → Option (Int32 × Mem)} (h4 : m.1 243 4 = nI n) (hn : n ≤ 2000) (hf : ∀ j, j < n → m.1 244 j = f j) (hb : ∀ j, (f j).toInt8.toInt32 = f j) : ∃ m', fX11_read_10 Kc FU 0 m = Kc m' ∧ (∀ j, j < n → m'.1 245 j = f j) ∧ (∀ a x, a ≠ 245 → m'.1 a x = m.1 a x) ∧ (∀ a x, m'.2 a x = m.2 a x) := by
  refine lupX (L := fun n i m => fX11_read_10 Kc n i m) (K := Kc) n (fun i m' => (∀ j, j < i → m'.1 245 j = f j) ∧ (∀ a x, a ≠ 245 → m'.1 a x = m.1 a x) ∧ (∀ a x, m'.2 a x = m.2 a x)) (by omega) ⟨fun g hg => by omega, fun _ _ _ => rfl, fun _ _ => rfl⟩ ?_ ?_
  · intro k i a hi ⟨k1, k2, k3⟩
    have bi : inb (nI i) 2000 := inbN (by omega) (by omega)
    have ci : (nI i).toNatClampNeg = i := nI_clamp (by omega)
    refine ⟨wI a 245 i (f i), ?_, fun g hg => ?_, fun x y hy => by rw [wI_i, if_neg (by omega)]; exact k2 x y hy, fun x y => k3 x y⟩
    · show fX11_read_10 Kc (k + 1) (nI i) a = _
      rw [fX11_read_10, k2 243 4 (by omega), h4, if_pos (nI_lt hi (by omega))]
      simp only [if_pos bi, ci, nm_ap, nI_1, k2 244 i (by omega), hf i hi, hb i]
    · rw [wI_i]
      by_cases c : g = i
      · rw [if_pos ⟨rfl, c⟩, c]
      · rw [if_neg (by omega)]; exact k1 g (by omega)
  · intro k a ⟨k1, k2, k3⟩
    show fX11_read_10 Kc (k + 1) (nI n) a = _
    rw [fX11_read_10, k2 243 4 (by omega), h4, if_neg (nI_nlt (by omega) (by omega))]
theorem rTK_of {b : Nat → Nat} {n : Nat} {m : Mem} (hb : ∀ j, b j < 256) (h : ∀ t, t ≤ 400 → (∀ j, j < t → 2 ≤ tK b n j) → rTok b n t m) : rTK (tK b n) (tW b n) (tN b n) (tS b n) m := by
  intro t ht hj
  obtain ⟨h1, h2, h3, h4⟩ := h t ht hj
  exact ⟨h1, h2, fun k => by rw [h3 k]; unfold tW; rw [if_pos k], fun k => h4 (by omega) (tK_2 hb k).1⟩
theorem gro_t {b : Nat → Nat} {n : Nat} (hn : n ≤ 2000) : gro (tK b n) (tS b n) := ⟨fun i j h k => tS_mono h k, fun i => by have := (tS_bd b n i).2; omega⟩
/-- cells that reading leaves alone until it knows that there is no fault -/
def kq (a x : Nat) : Prop := a < 243 ∨ (a = 243 ∧ (x = 17 ∨ x = 18 ∨ x = 56 ∨ x = 62)) ∨ a = 244 ∨ a = 250 ∨ 274 ≤ a
def Kq (m m' : Mem) : Prop := ∀ a x, kq a x → m'.1 a x = m.1 a x ∧ m'.2 a x = m.2 a x
theorem Kq.rfl {m : Mem} : Kq m m := fun _ _ _ => ⟨Eq.refl _, Eq.refl _⟩
theorem Kq.trans {a b c : Mem} (h : Kq a b) (k : Kq b c) : Kq a c := fun x j hx => ⟨(k x j hx).1.trans (h x j hx).1, (k x j hx).2.trans (h x j hx).2⟩
theorem Kq.wI {m0 m : Mem} {a x : Nat} {y : Int32} (h : Kq m0 m) (n : ¬ kq a x) : Kq m0 (wI m a x y) := by
  intro b j hb
  refine ⟨?_, (h b j hb).2⟩
  rw [wI_i]
  by_cases c : b = a ∧ j = x
  · rw [c.1, c.2] at hb; exact absurd hb n
  · rw [if_neg c]; exact (h b j hb).1
theorem Kq.fr {m0 m m' : Mem} {W : CellL} (h : Kq m0 m) (f : Fr W m m') (k : ∀ a x, kq a x → ¬ inW W a x) : Kq m0 m' := h.trans (fun a x hx => f a x (k a x hx))
abbrev Kfin (μ17 : Mem) : Option (Int32 × Mem) := if 0 < (μ17.1 243 13) then fX11_read_j164 (μ17.1 243 14) μ17 else (if 0 < (μ17.1 243 15) then fX11_read_j164 (μ17.1 243 16) μ17 else fX11_read_j164 (-1) μ17)
theorem r_start {A : Abs} {μ : Mem} {b : Nat → Nat} (hA : okA A) (h : RInv A μ) (hb : ∀ j, b j < 256) (hbt : ∀ j, A.tb j = bI (b j)) : ∃ m, fX11_read μ = fX11_read_112 Kfin FU m ∧ rRd (tK b A.tn) (tW b A.tn) (tN b A.tn) (tS b A.tn) (1 - A.lv) Rd0 m 0 (130 * (1 - A.lv)) (420 * (1 - A.lv)) ∧ KP (1 - A.lv) μ m ∧ Kq μ m ∧ m.1 243 2 = 0 := by
  have lv := hA.lv
  have tn := hA.tn
  generalize hv : 1 - A.lv = v
  have v1 : v ≤ 1 := by omega
  unfold fX11_read
  rw [nm_ap, h.tn]
  obtain ⟨m3, e3, a1, a2, a3⟩ := r_copy (m := wI μ 243 4 (nI A.tn)) (n := A.tn) (f := A.tb) (Kc := fun μ3 => nm (wI μ3 243 2 0) fun μ4 => (fX11_cut μ4).bind fun q5 => nm (wI q5 243 11 0) fun μ6 => nm (wI μ6 243 12 0) fun μ7 => nm (wI μ7 243 13 0) fun μ8 => nm (wI μ8 243 15 0) fun μ9 => nm (wI μ9 243 19 (1 - (μ9.1 243 18))) fun μ10 => nm (wI μ10 243 20 0) fun μ11 => (fX11_plain (μ11.1 243 19) μ11).bind fun q12 => nm (wI q12 243 36 (130 * (q12.1 243 19))) fun μ13 => nm (wI μ13 243 42 (420 * (μ13.1 243 19))) fun μ14 => fX11_read_112 Kfin FU μ14) (by rw [wI_i, if_pos ⟨rfl, rfl⟩]) tn (fun j hj => by rw [wI_i, if_neg (by omega)]; exact h.tb j hj) hA.tb
  have k3 : ∀ a x, a ≠ 245 → ¬ (a = 243 ∧ x = 4) → m3.1 a x = μ.1 a x := fun a x c1 c2 => by rw [a2 a x c1, wI_i, if_neg c2]
  have tp : rTp b A.tn (wI m3 243 2 0) := by
    refine ⟨?_, tn, hb, fun j hj => ?_⟩
    · rw [wI_i, if_neg (by omega), a2 _ _ (by omega), wI_i, if_pos ⟨rfl, rfl⟩]
    · rw [wI_i, if_neg (by omega), a1 j hj, hbt j]
  obtain ⟨m5, e5, c5⟩ := r_cut tp (fun w hw => by rw [wI_l, a3, wI_l]; exact h.ws w hw)
  have f5 : Fr WX11_cut (wI m3 243 2 0) m5 := frX11_cut _ _ e5
  have k5 : ∀ a x, ¬ (a = 243 ∧ x = 10) → ¬ (246 ≤ a ∧ a ≤ 249) → m5.1 a x = (wI m3 243 2 0).1 a x ∧ m5.2 a x = (wI m3 243 2 0).2 a x := fun a x c1 c2 => f5 a x (by simp [WX11_cut, inW]; omega)
  have l18 : (wI (wI (wI (wI m5 243 11 0) 243 12 0) 243 13 0) 243 15 0).1 243 18 = nI A.lv := by
    rw [wI_i, if_neg (by omega), wI_i, if_neg (by omega), wI_i, if_neg (by omega), wI_i, if_neg (by omega), (k5 _ _ (by omega) (by omega)).1, wI_i, if_neg (by omega), k3 _ _ (by omega) (by omega)]; exact h.lv
  have e19 : (1 : Int32) - nI A.lv = nI v := by
    have := nI_back (a := 1) (b := A.lv) lv
    rw [hv] at this
    exact this
  obtain ⟨m12, e12, p1, p2, p3, p4, p5, p6, p7, p8⟩ := r_plain (v := v) (m := wI (wI (wI (wI (wI (wI m5 243 11 0) 243 12 0) 243 13 0) 243 15 0) 243 19 (nI v)) 243 20 0) v1
  have f12 : Fr WX11_plain (wI (wI (wI (wI (wI (wI m5 243 11 0) 243 12 0) 243 13 0) 243 15 0) 243 19 (nI v)) 243 20 0) m12 := frX11_plain _ _ _ e12
  have k12 : ∀ a x, a < 253 ∨ 273 < a → m12.1 a x = (wI (wI (wI (wI (wI (wI m5 243 11 0) 243 12 0) 243 13 0) 243 15 0) 243 19 (nI v)) 243 20 0).1 a x ∧ m12.2 a x = m5.2 a x := fun a x c1 => f12 a x (by simp [WX11_plain, inW]; omega)
  have q19 : m12.1 243 19 = nI v := by rw [(k12 _ _ (by omega)).1, wI_i, if_neg (by omega), wI_i, if_pos ⟨rfl, rfl⟩]
  have q19' : (wI m12 243 36 (nI (130 * v))).1 243 19 = nI v := by rw [wI_i, if_neg (by omega)]; exact q19
  have r19 : (wI (wI (wI (wI (wI (wI m5 243 11 0) 243 12 0) 243 13 0) 243 15 0) 243 19 (nI v)) 243 20 0).1 243 19 = nI v := by rw [wI_i, if_neg (by omega), wI_i, if_pos ⟨rfl, rfl⟩]
  refine ⟨wI (wI m12 243 36 (nI (130 * v))) 243 42 (nI (420 * v)), ?_, ?_, ?_, ?_, ?_⟩
  · refine Eq.trans e3 ?_
    simp only [nm_ap]
    rw [e5, bind_s, l18, e19, r19, e12, bind_s, q19, show (130 : Int32) * nI v = nI (130 * v) from pk_mul 130 v, q19', show (420 : Int32) * nI v = nI (420 * v) from pk_mul 420 v]
  · have kk : ∀ a x, ¬ (a = 243 ∧ (x = 36 ∨ x = 42)) → (wI (wI m12 243 36 (nI (130 * v))) 243 42 (nI (420 * v))).1 a x = m12.1 a x := fun a x ha => by rw [wI_i, if_neg (by omega), wI_i, if_neg (by omega)]
    have rt : rTK (tK b A.tn) (tW b A.tn) (tN b A.tn) (tS b A.tn) (wI (wI m12 243 36 (nI (130 * v))) 243 42 (nI (420 * v))) := by
      refine (rTK_of hb c5).fr (fun a x a1 a2 => ⟨?_, ?_⟩)
      · rw [kk _ _ (by omega), (k12 _ _ (by omega)).1, wI_i, if_neg (by omega), wI_i, if_neg (by omega), wI_i, if_neg (by omega), wI_i, if_neg (by omega), wI_i, if_neg (by omega), wI_i, if_neg (by omega)]
      · rw [wI_l, wI_l, (k12 _ _ (by omega)).2]
    refine ⟨⟨rt, ?_, by omega, fun j hj => by omega, ?_, ?_, ?_, by omega, by omega, ?_, by omega, by omega, ?_, v1, FL.rfl⟩, by omega, ?_, by show 0 ≤ 4; omega, ?_, by show 0 ≤ 7; omega, ?_, by show 0 ≤ 8; omega, ?_, ?_, fun s hs => absurd (show s < 0 from hs) (by omega), fun s hs => absurd (show s < 0 from hs) (by omega), fun g hg => ?_, fun g o z => absurd (show false = true from z) (by decide), fun k hk => ?_, ⟨?_, fun _ => 0, fun k hk => absurd (show k < 0 + 0 from hk) (by omega), fun s hs => absurd (show s < 0 from hs) (by omega), fun s hs => absurd (show s < 0 from hs) (by omega), fun j k _ hk => absurd (show k < 0 + 0 from hk) (by omega)⟩, ?_⟩
    · rw [kk _ _ (by omega), (k12 _ _ (by omega)).1, wI_i, if_neg (by omega), wI_i, if_neg (by omega), wI_i, if_neg (by omega), wI_i, if_neg (by omega), wI_i, if_neg (by omega), wI_i, if_pos ⟨rfl, rfl⟩]; rfl
    · rw [kk _ _ (by omega), (k12 _ _ (by omega)).1, wI_i, if_neg (by omega), wI_i, if_neg (by omega), wI_i, if_neg (by omega), wI_i, if_pos ⟨rfl, rfl⟩]
    · rw [kk _ _ (by omega), (k12 _ _ (by omega)).1, wI_i, if_neg (by omega), wI_i, if_neg (by omega), wI_i, if_neg (by omega), wI_i, if_neg (by omega), wI_i, if_pos ⟨rfl, rfl⟩]
    · rw [wI_i, if_pos ⟨rfl, rfl⟩]
    · rw [wI_i, if_neg (by omega), wI_i, if_pos ⟨rfl, rfl⟩]
    · rw [kk _ _ (by omega)]; exact q19
    · rw [kk _ _ (by omega)]; exact p1
    · rw [kk _ _ (by omega)]; exact p2
    · rw [kk _ _ (by omega)]; exact p3
    · rw [kk _ _ (by omega)]; exact p4
    · rw [kk _ _ (by omega)]; exact p5
    · rw [kk _ _ (by omega), p6 g hg]
      show (0 : Int32) = nI (bs (fun _ => false) 7)
      rw [bs_zero.2 (fun _ _ => rfl)]; rfl
    · exact ⟨0, 0, by rw [kk _ _ (by omega)]; exact (p7 k hk).1, by rw [kk _ _ (by omega)]; exact (p7 k hk).2, Or.inl ⟨rfl, rfl, by omega⟩⟩
    · rw [kk _ _ (by omega), (k12 _ _ (by omega)).1, wI_i, if_pos ⟨rfl, rfl⟩]; rfl
    · show (wI (wI m12 243 36 (nI (130 * v))) 243 42 (nI (420 * v))).1 243 15 = 0
      rw [kk _ _ (by omega), (k12 _ _ (by omega)).1, wI_i, if_neg (by omega), wI_i, if_neg (by omega), wI_i, if_pos ⟨rfl, rfl⟩]
  · have q : KP v μ (wI (wI (wI (wI (wI (wI m5 243 11 0) 243 12 0) 243 13 0) 243 15 0) 243 19 (nI v)) 243 20 0) := by
      refine KP.rfl.of (fun a x ha => ?_)
      rw [wI_i, if_neg (by omega), wI_i, if_neg (by omega), wI_i, if_neg (by omega), wI_i, if_neg (by omega), wI_i, if_neg (by omega), wI_i, if_neg (by omega), (k5 _ _ (by omega) (by omega)).1, wI_i, if_neg (by omega), k3 _ _ (by omega) (by omega)]
    exact ((q.trans p8).wI (by unfold kc; omega)).wI (by unfold kc; omega)
  · intro a x hx
    unfold kq at hx
    refine ⟨?_, ?_⟩
    · rw [wI_i, if_neg (by omega), wI_i, if_neg (by omega), (k12 _ _ (by omega)).1, wI_i, if_neg (by omega), wI_i, if_neg (by omega), wI_i, if_neg (by omega), wI_i, if_neg (by omega), wI_i, if_neg (by omega), wI_i, if_neg (by omega), (k5 _ _ (by omega) (by omega)).1, wI_i, if_neg (by omega), k3 _ _ (by omega) (by omega)]
    · rw [wI_l, wI_l, (k12 _ _ (by omega)).2, (k5 _ _ (by omega) (by omega)).2, wI_l, a3, wI_l]
  · rw [wI_i, if_neg (by omega), wI_i, if_neg (by omega), (k12 _ _ (by omega)).1, wI_i, if_neg (by omega), wI_i, if_neg (by omega), wI_i, if_neg (by omega), wI_i, if_neg (by omega), wI_i, if_neg (by omega), wI_i, if_neg (by omega), (k5 _ _ (by omega) (by omega)).1, wI_i, if_pos ⟨rfl, rfl⟩]
