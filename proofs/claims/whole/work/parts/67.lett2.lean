/-! ===== letting: the reference ===== -/
def rBt (T : Txt) (S : St) (n : Nat) (μ : Mem) : Prop := ∀ k x, k ≤ n → x < 2 ^ T.nG → μ.1 282 (128 * k + x) = nI (bt T S k x)
theorem r_canBe {T : Txt} {S : St} {μ : Mem} (hT : okT T) {s p x : Nat} (hs : s < T.nS) (hp : p < 2 ^ T.nG) (hv : rVal T S T.nS μ) : fX11_canBe (nI s) (nI p) (nI x) μ = some (decide (isSub p x) && gd T S s p) := by
  have g7 := hT.g7
  have s4 := hT.s4
  have p7 : 2 ^ T.nG ≤ 2 ^ 7 := Nat.pow_le_pow_right (by decide) g7
  have bl : inb (nI (128 * s + p)) 512 := inbN (by omega) (by omega)
  have cl : (nI (128 * s + p)).toNatClampNeg = 128 * s + p := nI_clamp (by omega)
  unfold fX11_canBe
  rw [r_isPart _ _ (by omega), bind_s, ix128]
  simp only [if_pos bl, cl]
  rw [hv s p hs hp]
  by_cases c : isSub p x
  · rw [decide_eq_true c, if_pos rfl]
    cases d : gd T S s p with
    | false => rw [if_pos ((vI_neg hT S s p).2 d)]; rfl
    | true => rw [if_neg (fun q => by have := (vI_neg hT S s p).1 q; rw [d] at this; cases this)]; rfl
  · rw [decide_eq_false c, if_neg (by decide)]; rfl
theorem r_bestWith {T : Txt} {S : St} {μ : Mem} (hT : okT T) {s p x : Nat} (hs : s < T.nS) (hx : x < 2 ^ T.nG) (sp : isSub p x) (g : gd T S s p = true) (hv : rVal T S T.nS μ) (hb : ∀ y, y < 2 ^ T.nG → μ.1 282 (128 * s + y) = nI (bt T S s y)) : fX11_bestWith (nI s) (nI p) (nI x) μ = some (nI (vS T S s p + bt T S s (x ^^^ p))) := by
  have g7 := hT.g7
  have s4 := hT.s4
  have p7 : 2 ^ T.nG ≤ 2 ^ 7 := Nat.pow_le_pow_right (by decide) g7
  have pl := sp.le
  have xl := sub_x128 sp hx
  have bl : inb (nI (128 * s + p)) 512 := inbN (by omega) (by omega)
  have cl : (nI (128 * s + p)).toNatClampNeg = 128 * s + p := nI_clamp (by omega)
  have b2 : inb (nI (128 * s + (x ^^^ p))) 640 := inbN (by omega) (by omega)
  have c2 : (nI (128 * s + (x ^^^ p))).toNatClampNeg = 128 * s + (x ^^^ p) := nI_clamp (by omega)
  have vi : vI T S s p = nI (vS T S s p) := by unfold vI; rw [if_pos g]
  unfold fX11_bestWith
  rw [nI_dif, sp.xor, ix128, ix128]
  simp only [if_pos bl, cl, if_pos b2, c2]
  rw [hv s p hs (by omega), hb _ xl, vi, nI_add]
theorem r_best63 {T : Txt} {S : St} {μ : Mem} {K : Int32 → Option Mem} (hT : okT T) {s x : Nat} (hs : s < T.nS) (hx : x < 2 ^ T.nG) (hv : rVal T S T.nS μ) (hb : ∀ y, y < 2 ^ T.nG → μ.1 282 (128 * s + y) = nI (bt T S s y)) : fX11_fillsBest_63 (nI s) (nI x) μ K FU 0 0 = K (nI (bt T S (s + 1) x)) := by
  have g7 := hT.g7
  have s4 := hT.s4
  have p7 : 2 ^ T.nG ≤ 2 ^ 7 := Nat.pow_le_pow_right (by decide) g7
  have bnd : ∀ y, y < 128 → bt T S s y ≤ 2079 := fun y hy => by
    have h1 := bt_le hT S s y hy
    have h2 : s * 693 ≤ 3 * 693 := Nat.mul_le_mul_right 693 (by omega)
    omega
  obtain ⟨b, e, v, hv2, v3, v4⟩ := lupX (L := fun n p (a : Int32) => fX11_fillsBest_63 (nI s) (nI x) μ K n a p) (K := K) (a := (0 : Int32)) (x + 1) (fun p a => ∃ v, a = nI v ∧ v ≤ 2772 ∧ MaxOf 0 (fun q => (isSub q x ∧ gd T S s q = true) ∧ q < p) (fun p => vS T S s p + bt T S s (x ^^^ p)) v) (by omega)
    ⟨0, rfl, by omega, Nat.le_refl _, fun q hq => by omega, Or.inl rfl⟩
    (by
      rintro n p a hp ⟨v, rfl, v3, v4⟩
      show ∃ b, fX11_fillsBest_63 _ _ _ _ _ _ _ = _ ∧ _
      rw [fX11_fillsBest_63, if_neg (nI_nlt (by omega) (by omega)), r_canBe hT hs (by omega) hv, bind_s, nI_1]
      have non : ¬ (isSub p x ∧ gd T S s p = true) → ∀ q, ((isSub q x ∧ gd T S s q = true) ∧ q < p + 1) ↔ ((isSub q x ∧ gd T S s q = true) ∧ q < p) := by
        intro c q
        constructor
        · rintro ⟨a, b⟩
          refine ⟨a, ?_⟩
          rcases (show q < p ∨ q = p by omega) with d | d
          · exact d
          · rw [d] at a; exact absurd a c
        · rintro ⟨a, b⟩; exact ⟨a, by omega⟩
      by_cases sp : isSub p x
      · rw [decide_eq_true sp]
        cases d : gd T S s p with
        | false =>
          rw [if_neg (by decide)]
          exact ⟨_, rfl, v, rfl, v3, v4.same (non (fun q => by rw [d] at q; exact absurd q.2 (by decide)))⟩
        | true =>
          have xl := sub_x128 sp hx
          have b1 := bnd (x ^^^ p) (by omega)
          have b2 := vS_le hT S s p
          have add := v4.add (p := p) (D := fun q => (isSub q x ∧ gd T S s q = true) ∧ q < p + 1) (by
            intro q
            constructor
            · rintro ⟨a, b⟩
              rcases (show q < p ∨ q = p by omega) with e | e
              · exact Or.inl ⟨a, e⟩
              · exact Or.inr e
            · rintro (⟨a, b⟩ | b)
              · exact ⟨a, by omega⟩
              · subst b; exact ⟨⟨sp, d⟩, by omega⟩)
          have add : MaxOf 0 (fun q => (isSub q x ∧ gd T S s q = true) ∧ q < p + 1) (fun p => vS T S s p + bt T S s (x ^^^ p)) (max v (vS T S s p + bt T S s (x ^^^ p))) := add
          rw [if_pos (by decide), r_bestWith hT hs hx sp d hv hb, bind_s, bind_s]
          by_cases l : v < vS T S s p + bt T S s (x ^^^ p)
          · rw [if_pos (nI_lt l (by omega))]
            rw [Nat.max_eq_right (by omega)] at add
            exact ⟨_, rfl, _, rfl, by omega, add⟩
          · rw [if_neg (nI_nlt (by omega) (by omega))]
            rw [Nat.max_eq_left (by omega)] at add
            exact ⟨_, rfl, _, rfl, v3, add⟩
      · rw [decide_eq_false sp, if_neg (by simp)]
        exact ⟨_, rfl, v, rfl, v3, v4.same (non (fun q => sp q.1))⟩)
    (by
      rintro n a _
      show fX11_fillsBest_63 _ _ _ _ _ _ _ = _
      rw [fX11_fillsBest_63, if_pos (nI_lt (by omega) (by omega))])
  have m2 : MaxOf (bt T S s x) (prt T S s x) (fun p => vS T S s p + bt T S s (x ^^^ p)) v := by
    obtain ⟨k1, k2, k3⟩ := v4
    have z := k2 0 ⟨⟨Nat.zero_and _, gd_zero T S s⟩, by omega⟩
    have z : vS T S s 0 + bt T S s (x ^^^ 0) ≤ v := z
    rw [vS_zero, Nat.xor_zero] at z
    refine ⟨by omega, fun p hp => k2 p ⟨⟨hp.1, hp.2.2⟩, by have := hp.1.le; omega⟩, ?_⟩
    rcases k3 with q | ⟨p, c, q⟩
    · exact Or.inl (by omega)
    · rcases Nat.eq_zero_or_pos p with e | e
      · subst e
        have q : v = vS T S s 0 + bt T S s (x ^^^ 0) := q
        rw [vS_zero, Nat.xor_zero] at q
        exact Or.inl (by omega)
      · exact Or.inr ⟨p, ⟨c.1.1, e, c.1.2⟩, q⟩
  have u := MaxOf.uniq m2 (bt_spec (by omega))
  rw [hv2, u] at e
  exact e
theorem r_fillsBest {A : Abs} {μ : Mem} (hA : okA A) (hr : RInv A μ) : ∃ m, fX11_fillsBest μ = some m ∧ rX A.lv A.T m ∧ rS 277 0 A.S m ∧ rVal A.T A.S A.T.nS m ∧ rBt A.T A.S A.T.nS m := by
  have g7 := hA.T.g7
  have s4 := hA.T.s4
  have v1 := hA.lv
  have p7 : 2 ^ A.T.nG ≤ 2 ^ 7 := Nat.pow_le_pow_right (by decide) g7
  obtain ⟨m0, e0, x0, s0, val0⟩ := r_fillsValues hA hr
  unfold fX11_fillsBest
  rw [e0, bind_s]
  have keep : ∀ (m : Mem) (j : Nat) (w : Int32), rX A.lv A.T m ∧ rS 277 0 A.S m ∧ rVal A.T A.S A.T.nS m → rX A.lv A.T (wI m 282 j w) ∧ rS 277 0 A.S (wI m 282 j w) ∧ rVal A.T A.S A.T.nS (wI m 282 j w) := by
    rintro m j w ⟨a, b, c⟩
    exact ⟨a.sm (by rw [wI_i, if_neg (by omega)]) (Sm.wI (by omega)), b.sm (Sm.wI (by omega)), fun s x hs hx => by rw [wI_i, if_neg (by omega)]; exact c s x hs hx⟩
  refine ex_step (lupX (L := fun n v m => fX11_fillsBest_6 (fun μ3 => fX11_fillsBest_28 (fun μ10 => some μ10) FU 0 μ3) n v m) (K := fun μ3 => fX11_fillsBest_28 (fun μ10 => some μ10) FU 0 μ3) 128 (fun i m => (rX A.lv A.T m ∧ rS 277 0 A.S m ∧ rVal A.T A.S A.T.nS m) ∧ ∀ x, x < i → m.1 282 x = 0) (by omega) ⟨⟨x0, s0, val0⟩, fun x hx => by omega⟩ ?_ ?_) ?_
  · rintro n i m hi ⟨mk, mz⟩
    have bi : inb (nI i) 640 := inbN (by omega) (by omega)
    have ci : (nI i).toNatClampNeg = i := nI_clamp (by omega)
    show ∃ b, fX11_fillsBest_6 _ _ _ _ = _ ∧ _
    rw [fX11_fillsBest_6, if_pos (c_lt L_128 hi (by omega)), nI_1]
    simp only [if_pos bi, ci, nm_ap]
    refine ⟨_, rfl, keep m i 0 mk, ?_⟩
    intro x hx
    rw [wI_i]
    by_cases c : x = i
    · rw [if_pos ⟨rfl, c⟩]
    · rw [if_neg (by omega)]; exact mz x (by omega)
  · rintro n m _
    show fX11_fillsBest_6 _ _ _ _ = _
    rw [fX11_fillsBest_6, if_neg (c_nlt L_128 (by omega) (by omega))]
  · rintro m ⟨mk, mz⟩
    refine ex_step (lupX (L := fun n v m => fX11_fillsBest_28 (fun μ7 => some μ7) n v m) (K := fun μ7 => some μ7) A.T.nS (fun i m => (rX A.lv A.T m ∧ rS 277 0 A.S m ∧ rVal A.T A.S A.T.nS m) ∧ rBt A.T A.S i m) (by omega) ⟨mk, ?_⟩ ?_ ?_) ?_
    · intro k x hk hx
      have : k = 0 := by omega
      subst this
      rw [show 128 * 0 + x = x by omega]
      exact mz x (by omega)
    · rintro n i m2 hi ⟨kk, kb⟩
      show ∃ b, fX11_fillsBest_28 _ _ _ _ = _ ∧ _
      rw [fX11_fillsBest_28, kk.1.1, if_pos (show inb (nI A.lv) 2 from inbN (by omega) (by omega)), nI_clamp (n := A.lv) (by omega), kk.1.2.2.2.nS, if_pos (nI_lt hi (by omega))]
      obtain ⟨m3, e3, r1, r2, r3⟩ := lupX (L := fun n2 v m => fX11_fillsBest_43 (nI i) (fun μ6 => fX11_fillsBest_28 (fun μ7 => some μ7) n (nI i + 1) μ6) n2 v m) (K := fun μ6 => fX11_fillsBest_28 (fun μ7 => some μ7) n (nI i + 1) μ6) (a := m2) (2 ^ A.T.nG) (fun j m => (rX A.lv A.T m ∧ rS 277 0 A.S m ∧ rVal A.T A.S A.T.nS m) ∧ rBt A.T A.S i m ∧ ∀ x, x < j → m.1 282 (128 * (i + 1) + x) = nI (bt A.T A.S (i + 1) x)) (by omega) ⟨kk, kb, fun x hx => by omega⟩
        (by
          rintro n2 j m hj ⟨lk, lb, lx⟩
          have ij : (128 : Int32) * nI i + 128 + nI j = nI (128 * (i + 1) + j) := by
            rw [L_128, pk_mul, nI_add, nI_add]; congr 1
          have bj : inb (nI (128 * (i + 1) + j)) 640 := inbN (by omega) (by omega)
          have cj : (nI (128 * (i + 1) + j)).toNatClampNeg = 128 * (i + 1) + j := nI_clamp (by omega)
          show ∃ b, fX11_fillsBest_43 _ _ _ _ _ = _ ∧ _
          rw [fX11_fillsBest_43, lk.1.1, if_pos (show inb (nI A.lv) 2 from inbN (by omega) (by omega)), nI_clamp (n := A.lv) (by omega), lk.1.2.2.2.nG, nI_shl _ (by omega), if_pos (nI_lt hj (by omega)), r_best63 hA.T hi hj lk.2.2 (fun y hy => lb i y (by omega) hy), ij]
          simp only [if_pos bj, cj, nm_ap]
          rw [nI_1 j]
          refine ⟨_, rfl, keep m _ _ lk, ?_, ?_⟩
          · intro k x hk hx
            rw [wI_i, if_neg (by omega)]; exact lb k x hk hx
          · intro x hx
            rw [wI_i]
            by_cases c : x = j
            · rw [if_pos ⟨rfl, by omega⟩, c]
            · rw [if_neg (by omega)]; exact lx x (by omega))
        (by
          rintro n2 m ⟨lk, _⟩
          show fX11_fillsBest_43 _ _ _ _ _ = _
          rw [fX11_fillsBest_43, lk.1.1, if_pos (show inb (nI A.lv) 2 from inbN (by omega) (by omega)), nI_clamp (n := A.lv) (by omega), lk.1.2.2.2.nG, nI_shl _ (by omega), if_neg (nI_nlt (by omega) (by omega))])
      refine ⟨m3, (by rw [← nI_1]; exact e3), r1, ?_⟩
      intro k x hk hx
      by_cases c : k = i + 1
      · subst c; exact r3 x hx
      · exact r2 k x (by omega) hx
    · rintro n m2 ⟨kk, _⟩
      show fX11_fillsBest_28 _ _ _ _ = _
      rw [fX11_fillsBest_28, kk.1.1, if_pos (show inb (nI A.lv) 2 from inbN (by omega) (by omega)), nI_clamp (n := A.lv) (by omega), kk.1.2.2.2.nS, if_neg (nI_nlt (by omega) (by omega))]
    · rintro m2 ⟨⟨a, b, c⟩, d⟩
      exact ⟨m2, rfl, a, b, c, d⟩
theorem r_leastFor {T : Txt} {S : St} {μ : Mem} (hT : okT T) {s x : Nat} (hs : s < T.nS) (hx : x < 2 ^ T.nG) (hv : rVal T S T.nS μ) (hb : rBt T S T.nS μ) : fX11_leastFor (nI s) (nI x) μ = some (nI (lp T S s x)) := by
  have g7 := hT.g7
  have s4 := hT.s4
  have p7 : 2 ^ T.nG ≤ 2 ^ 7 := Nat.pow_le_pow_right (by decide) g7
  have lx := lp_ex (T := T) (S := S) (s := s) (x := x) (by omega)
  have bnd : ∀ k y, k ≤ 4 → y < 128 → bt T S k y ≤ 2772 := fun k y hk hy => by
    have h1 := bt_le hT S k y hy
    have h2 : k * 693 ≤ 4 * 693 := Nat.mul_le_mul_right 693 hk
    omega
  have ij : (128 : Int32) * nI s + 128 + nI x = nI (128 * (s + 1) + x) := by
    rw [L_128, pk_mul, nI_add, nI_add]; congr 1
  have bj : inb (nI (128 * (s + 1) + x)) 640 := inbN (by omega) (by omega)
  have cj : (nI (128 * (s + 1) + x)).toNatClampNeg = 128 * (s + 1) + x := nI_clamp (by omega)
  have step : ∀ n p, p < x + 1 → fX11_leastFor_2 (nI s) (nI x) μ (fun y3 => some y3) (n + 1) (nI p) = if lpB T S s x p = true then some (nI p) else fX11_leastFor_2 (nI s) (nI x) μ (fun y3 => some y3) n (nI (p + 1)) := by
    intro n p hp
    rw [fX11_leastFor_2, r_canBe hT hs (by omega) hv, bind_s, ij, nI_1]
    simp only [if_pos bj, cj]
    rw [hb (s + 1) x (by omega) hx]
    unfold lpB
    by_cases sp : isSub p x
    · rw [decide_eq_true sp]
      cases d : gd T S s p with
      | false => rw [if_neg (by decide), if_neg (by simp)]
      | true =>
        have k1 := bnd s (x ^^^ p) (by omega) (by have := sub_x128 sp hx; omega)
        have k2 := bnd (s + 1) x (by omega) (by omega)
        have k3 := vS_le hT S s p
        rw [if_pos (by decide), r_bestWith hT hs hx sp d hv (fun y hy => hb s y (by omega) hy), bind_s]
        by_cases c2 : vS T S s p + bt T S s (x ^^^ p) = bt T S (s + 1) x
        · rw [if_pos (by rw [c2]), if_pos (by simp [c2])]
        · rw [if_neg (fun q => c2 ((nI_eq (by omega) (by omega)).1 q)), if_neg (by simp [c2])]
    · rw [decide_eq_false sp, if_neg (by simp), if_neg (by simp)]
  have yes : lpB T S s x (lp T S s x) = true := by
    unfold lp at lx ⊢
    exact ffd_yes (lpB T S s x) (x + 1) 0 (by omega)
  unfold fX11_leastFor
  refine lfindL (L := fun n i => fX11_leastFor_2 (nI s) (nI x) μ (fun y3 => some y3) n i) (j := lp T S s x) (by omega) ?_ ?_
  · intro n
    show fX11_leastFor_2 _ _ _ _ _ _ = _
    rw [step n _ lx, if_pos yes]
  · intro n i hi
    have no : lpB T S s x i = false := ffd_no (lpB T S s x) (x + 1) 0 i (by omega) (by unfold lp at hi; exact hi)
    show fX11_leastFor_2 _ _ _ _ _ _ = fX11_leastFor_2 _ _ _ _ _ _
    rw [step n i (by omega), if_neg (by rw [no]; decide)]
theorem r_let62 {T : Txt} {S : St} {μ : Mem} {K : Int32 → Option (Int32 × Mem)} (hT : okT T) (hv : rVal T S T.nS μ) (hb : rBt T S T.nS μ) {i : Nat} : ∀ r n l, i + r < T.nS → l < 2 ^ T.nG → fX11_letting_62 (nI i) μ K (r + 1 + n) (nI l) (nI (i + r)) = K (nI (fr2 T S i r l)) ∧ fr2 T S i r l < 2 ^ T.nG := by
  have g7 := hT.g7
  have s4 := hT.s4
  have p7 : 2 ^ T.nG ≤ 2 ^ 7 := Nat.pow_le_pow_right (by decide) g7
  intro r
  induction r with
  | zero =>
    intro n l hr hl
    refine ⟨?_, hl⟩
    rw [show 0 + 1 + n = n + 1 by omega, fX11_letting_62, if_neg (nI_nlt (by omega) (by omega))]
    rfl
  | succ r ih =>
    intro n l hr hl
    have e : nI (i + (r + 1)) + (-1) = nI (i + r) := pk_m1 (i + r)
    have ls := lp_sub (T := T) (S := S) (s := i + r + 1) (x := l) (by omega)
    have := ih n (l ^^^ lp T S (i + r + 1) l) (by omega) (sub_x128 ls hl)
    rw [show r + 1 + 1 + n = (r + 1 + n) + 1 by omega, fX11_letting_62, if_pos (nI_lt (by omega) (by omega)), r_leastFor hT hr hl hv hb, bind_s, nm_ap, nI_dif, e, show i + (r + 1) = i + r + 1 by omega, ls.xor]
    exact this
theorem sp_letting : st_letting Inv := by
  intro μ a1 ⟨A, hA, hc, hr⟩
  have g7 := hA.T.g7
  have s4 := hA.T.s4
  have v1 := hA.lv
  have p7 : 2 ^ A.T.nG ≤ 2 ^ 7 := Nat.pow_le_pow_right (by decide) g7
  have ll := livB_sub (T := A.T) A.S
  have comp : ∀ K : Mem → Option (Int32 × Mem), ∃ m, fX10_letting_17 a1 K FU 0 μ = K m ∧ cT 199 A.T m ∧ cS 9 A.S m ∧ cVal A.T A.S A.T.nS m := by
    intro K
    refine lupX (L := fun n v m => fX10_letting_17 a1 K n v m) (K := K) A.T.nS (fun i m => cT 199 A.T m ∧ cS 9 A.S m ∧ cVal A.T A.S i m) (by omega) ⟨hc.T, hc.S, fun s x hs => by omega⟩ ?_ ?_
    · rintro n i m hi ⟨mT, mS, mv⟩
      obtain ⟨q, e, f, val⟩ := c_valueSets hA.T hA.S mT mS hi
      show ∃ b, fX10_letting_17 _ _ _ _ _ = _ ∧ _
      rw [fX10_letting_17, mT.nS, if_pos (nI_lt hi (by omega)), e, bind_s, nI_1]
      refine ⟨q, rfl, mT.sm (f.sm (by intro a j h1 h2; simp [inW]; omega)), mS.sm (f.sm (by intro a j h1 h2; simp [inW]; omega)), ?_⟩
      intro s x hs hx
      by_cases c : s = i
      · subst c; exact val x hx
      · rw [(f (185 + s) x (by simp [inW]; omega)).1]; exact mv s x (by omega) hx
    · rintro n m ⟨mT, _⟩
      show fX10_letting_17 _ _ _ _ _ = _
      rw [fX10_letting_17, mT.nS, if_neg (nI_nlt (by omega) (by omega))]
  have post : ∀ m, cT 199 A.T m → cS 9 A.S m → cVal A.T A.S A.T.nS m → ∃ q, fX3_letAll 199 m = some q ∧ cT 199 A.T q ∧ cVal A.T A.S A.T.nS q ∧ cBt A.T A.S A.T.nS q ∧ fX5_alive 9 199 q = some (nI (livB A.T A.S)) := by
    intro m mT mS mv
    obtain ⟨q, e, f, hb⟩ := c_letAll hA.T mT mv
    have qT : cT 199 A.T q := mT.sm (f.sm (by intro a j h1 h2; simp [inW]; omega))
    have qS : cS 9 A.S q := mS.sm (f.sm (by intro a j h1 h2; simp [inW]; omega))
    exact ⟨q, e, qT, fun s x hs hx => by rw [(f (185 + s) x (by simp [inW]; omega)).1]; exact mv s x hs hx, hb, c_alive hA qT qS⟩
  have ba : inb (nI (livB A.T A.S)) 128 := inbN (by omega) (by omega)
  have ca : (nI (livB A.T A.S)).toNatClampNeg = livB A.T A.S := nI_clamp (by omega)
  by_cases w : a1 = -1
  · subst w
    refine qmm hA hc hr (F := fX10_letting (-1)) (G := fX11_letting (-1)) (nI (bt A.T A.S A.T.nS (livB A.T A.S))) ?_ ?_ (frX10_letting _ μ) (frX11_letting _) (by decide) (by decide) (by decide) (by decide)
    · unfold fX10_letting
      rw [if_pos rfl]
      obtain ⟨m, e, mT, mS, mv⟩ := comp (fun μ2 => (fX3_letAll 199 μ2).bind fun q3 => (fX5_alive 9 199 q3).bind fun q4 => if (-1 : Int32) = (-1) then if inb (q3.1 199 0) 5 then if inb q4 128 then some ((q3.1 (190 + (q3.1 199 0).toNatClampNeg) q4.toNatClampNeg), q3) else none else none else (fX3_setLetIn 199 q4 (-1) q3).bind fun q5 => some (q5, q3))
      obtain ⟨q, e2, qT, qv, qb, qa⟩ := post m mT mS mv
      refine ⟨q, Eq.trans e ?_⟩
      have b5 : inb (nI A.T.nS) 5 := inbN (by omega) (by omega)
      have c5 : (nI A.T.nS).toNatClampNeg = A.T.nS := nI_clamp (by omega)
      rw [e2, bind_s, qa, bind_s, if_pos rfl, show q.1 199 0 = _ from qT.nS]
      simp only [if_pos b5, c5, if_pos ba, ca]
      rw [qb _ _ (Nat.le_refl _) ll]
    · intro μ' hr'
      obtain ⟨m, e, mx, ms, mv, mb⟩ := r_fillsBest hA hr'
      refine ⟨m, ?_⟩
      have bl : inb (nI (128 * A.T.nS + livB A.T A.S)) 640 := inbN (by omega) (by omega)
      have cl : (nI (128 * A.T.nS + livB A.T A.S)).toNatClampNeg = 128 * A.T.nS + livB A.T A.S := nI_clamp (by omega)
      unfold fX11_letting fX11_letting_j15
      rw [if_pos rfl, e, bind_s, r_livingBits mx ms, bind_s, if_pos rfl, mx.1, if_pos (show inb (nI A.lv) 2 from inbN (by omega) (by omega)), nI_clamp (n := A.lv) (by omega), mx.2.2.2.nS, ix128]
      simp only [if_pos bl, cl]
      rw [mb _ _ (Nat.le_refl _) ll]
  · have no1 : (a1 < 0 ∨ nI A.T.nS ≤ a1) → ∃ (r : Int32) (μ1 μ2 : Mem), fX10_letting a1 μ = some (r, μ1) ∧ fX11_letting a1 μ1 = some (r, μ2) ∧ Inv μ2 := by
      intro h
      refine ⟨-1, μ, μ, ?_, ?_, A, hA, hc, hr⟩
      · unfold fX10_letting; rw [if_neg w, c_isSunday_no hc h s4, bind_s, if_neg (by decide)]
      · unfold fX11_letting; rw [if_neg w, r_isSunday_no (hr.rX hA) h, bind_s, if_neg (by decide)]
    rcases pk_ix a1 (n := A.T.nS) (by omega) with h | h | ⟨i, hi, rfl⟩
    · exact no1 (Or.inl h)
    · exact no1 (Or.inr h)
    refine qmm hA hc hr (F := fX10_letting (nI i)) (G := fX11_letting (nI i)) (nI (finL A.T A.S i (A.T.nS - i) (livB A.T A.S) 0)) ?_ ?_ (frX10_letting _ μ) (frX11_letting _) (by decide) (by decide) (by decide) (by decide)
    · unfold fX10_letting
      rw [if_neg w, c_isSunday_yes hc hi s4, bind_s, if_pos rfl]
      obtain ⟨m, e, mT, mS, mv⟩ := comp (fun μ8 => (fX3_letAll 199 μ8).bind fun q9 => (fX5_alive 9 199 q9).bind fun q10 => if nI i = (-1) then if inb (q9.1 199 0) 5 then if inb q10 128 then some ((q9.1 (190 + (q9.1 199 0).toNatClampNeg) q10.toNatClampNeg), q9) else none else none else (fX3_setLetIn 199 q10 (nI i) q9).bind fun q11 => some (q11, q9))
      obtain ⟨q, e2, qT, qv, qb, qa⟩ := post m mT mS mv
      refine ⟨q, Eq.trans e ?_⟩
      rw [e2, bind_s, qa, bind_s, if_neg w, c_setLetIn hA.T qT qv qb hi ll, bind_s]
    · intro μ' hr'
      obtain ⟨m, e, mx, ms, mv, mb⟩ := r_fillsBest hA hr'
      refine ⟨m, ?_⟩
      unfold fX11_letting fX11_letting_j15
      rw [if_neg w, r_isSunday_yes (hr'.rX hA) hi, bind_s, if_pos rfl, e, bind_s, r_livingBits mx ms, bind_s, if_neg w, mx.1, if_pos (show inb (nI A.lv) 2 from inbN (by omega) (by omega)), nI_clamp (n := A.lv) (by omega), mx.2.2.2.nS, nm_ap, show nI A.T.nS - 1 = nI (A.T.nS - 1) from pk_sub (b := 1) (by omega)]
      have go := r_let62 (K := fun y6 => (fX11_leastFor (nI i) y6 m).bind fun q7 => some (q7, m)) hA.T mv mb (i := i) (A.T.nS - 1 - i) (4096 - (A.T.nS - i)) (livB A.T A.S) (by omega) ll
      rw [show A.T.nS - 1 - i + 1 + (4096 - (A.T.nS - i)) = FU by unfold FU; omega, show i + (A.T.nS - 1 - i) = A.T.nS - 1 by omega] at go
      rw [go.1, r_leastFor hA.T hi go.2 mv mb, bind_s, show A.T.nS - i = (A.T.nS - 1 - i) + 1 by omega, fin_fr]
