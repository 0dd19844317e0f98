/-! ===== the component's row of tokens ===== -/
theorem pkw_lt {b : Nat} : ∀ {l : List Nat}, (∀ x, x ∈ l → x < b) → pkw b l < b ^ l.length := by
  intro l
  induction h : l.length generalizing l with
  | zero => intro _; rw [List.length_eq_zero_iff.1 h]; show 0 < b ^ 0; rw [Nat.pow_zero]; omega
  | succ k ih =>
    intro hx
    rcases List.eq_nil_or_concat l with e | ⟨xs, x, e⟩
    · rw [e] at h; simp at h
    · rw [List.concat_eq_append] at e
      subst e
      have l1 : xs.length = k := by simp at h; omega
      have i1 := ih l1 (fun y hy => hx y (List.mem_append_left _ hy))
      have i2 := hx x (List.mem_append_right _ (List.mem_singleton.2 rfl))
      rw [pkw_app, Nat.pow_succ]
      have : (pkw b xs + 1) * b ≤ b ^ k * b := Nat.mul_le_mul_right b i1
      rw [Nat.add_mul] at this
      omega
theorem pkw_inj {b : Nat} : ∀ {l l' : List Nat}, (∀ x, x ∈ l → 1 ≤ x ∧ x < b) → (∀ x, x ∈ l' → 1 ≤ x ∧ x < b) → pkw b l = pkw b l' → l = l' := by
  intro l
  induction h : l.length generalizing l with
  | zero =>
    intro l' h1 h2 e
    have hl : l = [] := List.length_eq_zero_iff.1 h
    subst hl
    rcases List.eq_nil_or_concat l' with q | ⟨ys, y, q⟩
    · rw [q]
    · rw [List.concat_eq_append] at q
      subst q
      have := (h2 y (List.mem_append_right _ (List.mem_singleton.2 rfl))).1
      rw [pkw_app] at e
      have z : pkw b [] = 0 := rfl
      omega
  | succ k ih =>
    intro l' h1 h2 e
    rcases List.eq_nil_or_concat l with q | ⟨xs, x, q⟩
    · rw [q] at h; simp at h
    · rw [List.concat_eq_append] at q
      subst q
      have l1 : xs.length = k := by simp at h; omega
      have x1 := h1 x (List.mem_append_right _ (List.mem_singleton.2 rfl))
      rcases List.eq_nil_or_concat l' with q | ⟨ys, y, q⟩
      · subst q
        rw [pkw_app] at e
        have z : pkw b [] = 0 := rfl
        omega
      · rw [List.concat_eq_append] at q
        subst q
        have y1 := h2 y (List.mem_append_right _ (List.mem_singleton.2 rfl))
        rw [pkw_app, pkw_app] at e
        have em : (pkw b xs * b + x) % b = (pkw b ys * b + y) % b := by rw [e]
        rw [Nat.mul_comm, Nat.mul_add_mod, Nat.mul_comm, Nat.mul_add_mod, Nat.mod_eq_of_lt x1.2, Nat.mod_eq_of_lt y1.2] at em
        subst em
        have e2 : pkw b xs * b = pkw b ys * b := by omega
        have e3 := Nat.eq_of_mul_eq_mul_right (by omega) e2
        rw [ih l1 (fun z hz => h1 z (List.mem_append_left _ hz)) (fun z hz => h2 z (List.mem_append_left _ hz)) e3]
theorem wordL_ok : ∀ w, w < 21 → ∀ x, x ∈ wordL.getD w [] → 1 ≤ x ∧ x < 27 := by decide +kernel
theorem wordL_len : ∀ w, w < 21 → (wordL.getD w []).length ≤ 8 := by decide +kernel
def ltOk (l : List Nat) : Prop := (∀ x, x ∈ l → 1 ≤ x ∧ x < 27) ∧ l.length ≤ 8
theorem pkl_eq {b : Nat} (hb : 27 ≤ b) (hb2 : b ≤ 32) {l l' : List Nat} (h : ltOk l) (k : ltOk l') : lN (pkw b l) = lN (pkw b l') ↔ l = l' := by
  have c1 : pkw b l < b ^ l.length := pkw_lt (fun x hx => by have := (h.1 x hx).2; omega)
  have c2 : pkw b l' < b ^ l'.length := pkw_lt (fun x hx => by have := (k.1 x hx).2; omega)
  have d1 : b ^ l.length ≤ 32 ^ 8 := Nat.le_trans (Nat.pow_le_pow_left hb2 _) (Nat.pow_le_pow_right (by decide) h.2)
  have d2 : b ^ l'.length ≤ 32 ^ 8 := Nat.le_trans (Nat.pow_le_pow_left hb2 _) (Nat.pow_le_pow_right (by decide) k.2)
  constructor
  · intro e
    have e2 : pkw b l = pkw b l' := by
      have := congrArg (fun z : Int64 => z.toBitVec.toNat) e
      simp only [lN_bv, BitVec.toNat_ofNat] at this
      omega
    exact pkw_inj (fun x hx => by have := h.1 x hx; omega) (fun x hx => by have := k.1 x hx; omega) e2
  · intro e; rw [e]
theorem c_kindOf {μ : Mem} (ws : ∀ w, w < 21 → μ.2 8 w = lN (pkw 32 (wordL.getD w []))) {l : List Nat} (h : ltOk l) : fX8_kindOf (lN (pkw 32 l)) μ = some (nI (wkd l)) := by
  unfold fX8_kindOf
  have step : ∀ n i, i < 21 → fX8_kindOf_2 (lN (pkw 32 l)) μ (fun _ => some 2) (n + 1) (nI i) = if (wordL.getD i [] == l) = true then some (nI (13 + i)) else fX8_kindOf_2 (lN (pkw 32 l)) μ (fun _ => some 2) n (nI (i + 1)) := by
    intro n i hi
    have bj : inb (nI i) 21 := inbN (by omega) (by omega)
    have cj : (nI i).toNatClampNeg = i := nI_clamp (by omega)
    rw [fX8_kindOf_2, if_pos (c_lt L_21 hi (by omega))]
    simp only [if_pos bj, cj]
    rw [ws i hi, L_13, nI_add, nI_1]
    by_cases c : wordL.getD i [] = l
    · rw [if_pos (by rw [c]), if_pos (by simpa using c)]
    · rw [if_neg (fun q => c ((pkl_eq (by omega) (by omega) ⟨wordL_ok i hi, wordL_len i hi⟩ h).1 q)), if_neg (by simpa using c)]
  rw [lfind (L := fun n i => fX8_kindOf_2 (lN (pkw 32 l)) μ (fun _ => some 2) n i) (X := some 2) 21 (fun w => wordL.getD w [] == l) (fun w => some (nI (13 + w))) (by omega)
    (by intro n i hi hp; show fX8_kindOf_2 _ _ _ _ _ = _; rw [step n i hi, if_pos hp])
    (by intro n i hi hp; show fX8_kindOf_2 _ _ _ _ _ = _; rw [step n i hi, if_neg (by rw [hp]; decide)])
    (by intro n; show fX8_kindOf_2 _ _ _ _ _ = _; rw [fX8_kindOf_2, if_neg (c_nlt L_21 (by omega) (by omega))])]
  unfold wkd
  split <;> rfl
/-- the component's token j -/
def cTok (b : Nat → Nat) (n j : Nat) (μ : Mem) : Prop := μ.1 5 j = nI (tK b n j) ∧ μ.1 6 j = nI (tS b n j) ∧ (tK b n j = 3 → μ.2 7 j = lN (tV b n j)) ∧ (2 ≤ tK b n j → isLtN (b (tS b n j)) = true → μ.2 7 j = lN (pkw 32 (tN b n j)))
theorem c_add {k p j : Nat} {v : Int64} {μ : Mem} (hj : j < 402) (h : μ.1 4 4 = nI j) : ∃ m, fX8_add (nI k) (nI p) v μ = some m ∧ m.1 4 4 = nI (j + 1) ∧ m.1 5 j = nI k ∧ m.1 6 j = nI p ∧ m.2 7 j = v ∧ (∀ x, x ≠ j → m.1 5 x = μ.1 5 x ∧ m.1 6 x = μ.1 6 x ∧ m.2 7 x = μ.2 7 x) := by
  have bj : inb (nI j) 402 := inbN (by omega) (by omega)
  have cj : (nI j).toNatClampNeg = j := nI_clamp (by omega)
  have e1 : (wI μ 5 j (nI k)).1 4 4 = nI j := by rw [wI_i, if_neg (by omega)]; exact h
  have e2 : (wI (wI μ 5 j (nI k)) 6 j (nI p)).1 4 4 = nI j := by rw [wI_i, if_neg (by omega)]; exact e1
  have e3 : (wJ (wI (wI μ 5 j (nI k)) 6 j (nI p)) 7 j v).1 4 4 = nI j := e2
  unfold fX8_add
  rw [h, if_pos (c_lt L_402 hj (by omega))]
  simp only [if_pos bj, cj, nm_ap, e1, e2, e3, nI_1]
  refine ⟨_, rfl, ?_, ?_, ?_, ?_, ?_⟩
  · rw [wI_i, if_pos ⟨rfl, rfl⟩]
  · rw [wI_i, if_neg (by omega), wJ_i, wI_i, if_neg (by omega), wI_i, if_pos ⟨rfl, rfl⟩]
  · rw [wI_i, if_neg (by omega), wJ_i, wI_i, if_pos ⟨rfl, rfl⟩]
  · rw [wI_l, wJ_l, if_pos ⟨rfl, rfl⟩]
  · intro x hx
    refine ⟨?_, ?_, ?_⟩
    · rw [wI_i, if_neg (by omega), wJ_i, wI_i, if_neg (by omega), wI_i, if_neg (by omega)]
    · rw [wI_i, if_neg (by omega), wJ_i, wI_i, if_neg (by omega), wI_i, if_neg (by omega)]
    · rw [wI_l, wJ_l, if_neg (by omega)]; rfl
theorem dgV_lt {b : Nat → Nat} {i : Nat} : ∀ {c : Nat}, (∀ j, j < c → b (i + j) - 48 < 10) → dgV b i c < 10 ^ c
  | 0, _ => by show 0 < 10 ^ 0; decide
  | c + 1, h => by
    have := dgV_lt (b := b) (i := i) (c := c) (fun j hj => h j (by omega))
    have h2 := h c (by omega)
    rw [dgV, Nat.pow_succ]
    omega
theorem run_lt {b : Nat → Nat} {n i j : Nat} (h1 : i ≤ j) (h2 : j < leB b n i) : isLtN (b j) = true := by
  have := ffd_no (fun j => !isLtN (b j)) (n - i) i j h1 h2
  simpa using this
theorem run_dg {b : Nat → Nat} {n i j : Nat} (h1 : i ≤ j) (h2 : j < deB b n i) : isDgN (b j) = true := by
  have := ffd_no (fun j => !isDgN (b j)) (n - i) i j h1 h2
  simpa using this
theorem lt_ok {b : Nat → Nat} {n i : Nat} (hb : ∀ j, b j < 256) (h : leB b n i - i ≤ 8) : ltOk (ltL b i (leB b n i - i)) := by
  refine ⟨?_, by rw [ltL_len]; exact h⟩
  intro x hx
  unfold ltL at hx
  rw [List.mem_map] at hx
  obtain ⟨j, hj, rfl⟩ := hx
  have hj := List.mem_range.1 hj
  have := let_all (b (i + j)) (hb _) (run_lt (n := n) (i := i) (by omega) (by omega))
  exact ⟨this.2.2.1, this.2.2.2⟩
theorem wkd_2 (l : List Nat) : 2 ≤ wkd l ∧ wkd l ≤ 33 ∧ wkd l ≠ 3 := by
  unfold wkd
  split <;> omega
theorem sgN_r : ∀ k, k < 256 → 1 ≤ sgN k ∧ sgN k ≤ 12 ∧ sgN k ≠ 3 ∧ sgN k ≠ 2 := by decide +kernel
theorem i64_nI {m : Nat} (h : m < 2 ^ 31) : (nI m).toInt64 = lN m := by
  apply Int64.toInt_inj.1
  rw [Int32.toInt_toInt64, nI_toInt h]
  unfold lN
  rw [Int64.toInt_ofNat_of_lt (by omega)]
/-- one token more -/
theorem c_cutOne {b : Nat → Nat} {n j : Nat} {μ : Mem} (h : cTp b n μ) (ws : ∀ w, w < 21 → μ.2 8 w = lN (pkw 32 (wordL.getD w []))) (hj : j < 402) (hm : μ.1 4 4 = nI j) (ht : tS b n j < n) : ∃ m, fX8_cutOne (nI (tS b n j)) μ = some (nI (ps b n (j + 1)), m) ∧ m.1 4 4 = nI (j + 1) ∧ cTok b n j m ∧ (∀ x, x ≠ j → m.1 5 x = μ.1 5 x ∧ m.1 6 x = μ.1 6 x ∧ m.2 7 x = μ.2 7 x) := by
  have hh := h
  obtain ⟨h1, h2, h3, h4⟩ := h
  have bi : inb (nI (tS b n j)) 2000 := inbN (by omega) (by omega)
  have ci : (nI (tS b n j)).toNatClampNeg = tS b n j := nI_clamp (by omega)
  have ep : ps b n (j + 1) = tkE b n (tS b n j) := by rw [ps]; exact if_pos ht
  have ek : tK b n j = tkK b n (tS b n j) := by unfold tK; rw [if_pos ht]
  have bd := tkE_bd (b := b) ht
  unfold fX8_cutOne
  simp only [if_pos bi, ci, nm_ap]
  rw [h4 _ ht, c_isLetter (h3 _), bind_s, c_isDigit (h3 _), bind_s, ep]
  unfold tkE at bd ⊢
  unfold tkK at ek
  cases c : isLtN (b (tS b n j)) with
  | true =>
    rw [c, if_pos rfl] at bd ek
    rw [if_pos rfl, if_pos rfl]
    unfold fX8_cutLetters fX8_cutLetters_j50
    rw [c_letLoop hh (by omega), show nI (leB b n (tS b n j)) - nI (tS b n j) = nI (leB b n (tS b n j) - tS b n j) from pk_sub (by omega)]
    by_cases l8 : 8 < leB b n (tS b n j) - tS b n j
    · rw [if_pos l8] at ek
      obtain ⟨m, e, r1, r2, r3, r4, r5⟩ := c_add (k := 1) (p := tS b n j) (v := lN (pkw 32 (ltL b (tS b n j) (leB b n (tS b n j) - tS b n j)))) hj hm
      refine ⟨m, ?_, r1, ⟨by rw [ek]; exact r2, r3, fun q => by omega, fun q => by omega⟩, r5⟩
      rw [if_pos (by rw [L_8]; exact nI_lt l8 (by omega)), show fX8_add 1 (nI (tS b n j)) _ μ = some m from e, bind_s, bind_s]
    · rw [if_neg l8] at ek
      have lo := lt_ok (n := n) (i := tS b n j) h3 (by omega)
      have w2 := wkd_2 (ltL b (tS b n j) (leB b n (tS b n j) - tS b n j))
      obtain ⟨m, e, r1, r2, r3, r4, r5⟩ := c_add (k := wkd (ltL b (tS b n j) (leB b n (tS b n j) - tS b n j))) (p := tS b n j) (v := lN (pkw 32 (ltL b (tS b n j) (leB b n (tS b n j) - tS b n j)))) hj hm
      refine ⟨m, ?_, r1, ⟨by rw [ek]; exact r2, r3, fun q => by omega, fun _ _ => r4⟩, r5⟩
      rw [if_neg (by rw [L_8]; exact nI_nlt (by omega) (by omega)), c_kindOf ws lo, bind_s, e, bind_s, bind_s]
  | false =>
    rw [c, if_neg (show ¬ false = true by decide)] at bd ek
    rw [if_neg (show ¬ false = true by decide), if_neg (show ¬ false = true by decide)]
    cases d : isDgN (b (tS b n j)) with
    | true =>
      rw [d, if_pos rfl] at bd ek
      rw [if_pos rfl, if_pos rfl]
      unfold fX8_cutDigits fX8_cutDigits_j48
      rw [c_digLoop hh (by omega), show nI (deB b n (tS b n j)) - nI (tS b n j) = nI (deB b n (tS b n j) - tS b n j) from pk_sub (by omega)]
      by_cases l4 : 4 < deB b n (tS b n j) - tS b n j
      · rw [if_pos l4] at ek
        obtain ⟨m, e, r1, r2, r3, r4, r5⟩ := c_add (k := 1) (p := tS b n j) (v := (nI (dgV b (tS b n j) (deB b n (tS b n j) - tS b n j))).toInt64) hj hm
        refine ⟨m, ?_, r1, ⟨by rw [ek]; exact r2, r3, fun q => by omega, fun q => by omega⟩, r5⟩
        rw [if_pos (by rw [L_4]; exact nI_lt l4 (by omega)), show fX8_add 1 (nI (tS b n j)) _ μ = some m from e, bind_s, bind_s]
      · rw [if_neg l4] at ek
        have vl : dgV b (tS b n j) (deB b n (tS b n j) - tS b n j) < 10 ^ 4 := Nat.lt_of_lt_of_le (dgV_lt (fun x hx => (dig_all _ (h3 _) (run_dg (n := n) (i := tS b n j) (by omega) (by omega))).2)) (Nat.pow_le_pow_right (by decide) (by omega))
        obtain ⟨m, e, r1, r2, r3, r4, r5⟩ := c_add (k := 3) (p := tS b n j) (v := (nI (dgV b (tS b n j) (deB b n (tS b n j) - tS b n j))).toInt64) hj hm
        refine ⟨m, ?_, r1, ⟨by rw [ek]; exact r2, r3, fun _ => ?_, fun _ q => by rw [c] at q; cases q⟩, r5⟩
        · rw [if_neg (by rw [L_4]; exact nI_nlt (by omega) (by omega)), show fX8_add 3 (nI (tS b n j)) _ μ = some m from e, bind_s, bind_s]
        · rw [r4, i64_nI (by omega)]; rfl
    | false =>
      rw [d, if_neg (show ¬ false = true by decide)] at bd ek
      rw [if_neg (show ¬ false = true by decide), if_neg (show ¬ false = true by decide)]
      have sg := sg_all (b (tS b n j)) (h3 _)
      have sr := sgN_r (b (tS b n j)) (h3 _)
      obtain ⟨m, e, r1, r2, r3, r4, r5⟩ := c_add (k := sgN (b (tS b n j))) (p := tS b n j) (v := 0) hj hm
      refine ⟨m, ?_, r1, ⟨by rw [ek]; exact r2, r3, fun q => by omega, fun _ q => by rw [c] at q; cases q⟩, r5⟩
      unfold fX8_cutOne_j50
      by_cases p : (0 : Int32) < bI (b (tS b n j))
      · rw [if_pos p] at sg ⊢
        by_cases q : idxS (i2c (bI (b (tS b n j)))) < 0
        · rw [if_pos q] at sg ⊢
          rw [← sg] at e
          rw [e, bind_s, nI_1]
        · rw [if_neg q] at sg ⊢
          rw [sg, e, bind_s, nI_1]
      · rw [if_neg p] at sg ⊢
        rw [← sg] at e
        rw [if_pos (by decide), e, bind_s, nI_1]
theorem c_cut {b : Nat → Nat} {n : Nat} {μ : Mem} (h : cTp b n μ) (ws : ∀ w, w < 21 → μ.2 8 w = lN (pkw 32 (wordL.getD w []))) : ∃ m, fX8_cut μ = some m ∧ ∀ t, t ≤ 400 → (∀ j, j < t → 2 ≤ tK b n j) → cTok b n t m := by
  have hh := h
  obtain ⟨h1, h2, h3, h4⟩ := h
  unfold fX8_cut
  rw [nm_ap]
  have keep : ∀ m, Fr WX8_cut μ m → cTp b n m ∧ ∀ w, w < 21 → m.2 8 w = lN (pkw 32 (wordL.getD w [])) := by
    intro m f
    refine ⟨⟨by rw [(f 1 1 (by simp [WX8_cut, inW])).1]; exact h1, h2, h3, fun j hj => by rw [(f 2 j (by simp [WX8_cut, inW])).1]; exact h4 j hj⟩, fun w hw => by rw [(f 8 w (by simp [WX8_cut, inW])).2]; exact ws w hw⟩
  have sub1 : ∀ {x y}, inW WX8_cutOne x y → inW WX8_cut x y := by intro x y; simp [WX8_cutOne, WX8_cut, inW]; omega
  have sub2 : ∀ {x y}, inW WX8_add x y → inW WX8_cut x y := by intro x y; simp [WX8_add, WX8_cut, inW]; omega
  -- the loop from token i on
  have go : ∀ r i f m, i + r = 401 → Fr WX8_cut μ m → m.1 4 4 = nI i → (∀ j, j < i → cTok b n j m ∧ 2 ≤ tK b n j) → ∃ q, fX8_cut_9 (fun μ4 => (fX8_add 0 (μ4.1 1 1) 0 μ4).bind fun q5 => some q5) (r + 1 + f) (nI (ps b n i)) (nI i) m = some q ∧ ∀ t, t ≤ 400 → (∀ j, j < t → 2 ≤ tK b n j) → cTok b n t q := by
    intro r
    induction r with
    | zero =>
      intro i f m hi mf mm mt
      have e401 : i = 401 := by omega
      subst e401
      have kp := (keep m mf).1
      rw [show 0 + 1 + f = f + 1 by omega, fX8_cut_9, if_pos (by decide), kp.1]
      obtain ⟨q, e, r1, r2, r3, r4, r5⟩ := c_add (k := 0) (p := n) (v := 0) (j := 401) (by omega) mm
      refine ⟨q, by rw [show fX8_add 0 (nI n) 0 m = some q from e, bind_s], ?_⟩
      intro t ht hk
      have c := (mt t (by omega)).1
      have d := r5 t (by omega)
      unfold cTok at c ⊢
      rw [d.1, d.2.1, d.2.2]; exact c
    | succ r ih =>
      intro i f m hi mf mm mt
      obtain ⟨kp, kw⟩ := keep m mf
      have pl := ps_le b n i
      have tb := tS_bd b n i
      rw [show r + 1 + 1 + f = (r + 1 + f) + 1 by omega, fX8_cut_9, if_neg (by rw [L_400]; exact nI_nlt (by omega) (by omega)), c_behind kp pl, bind_s, kp.1]
      by_cases c : skB b n (ps b n i) < n
      · rw [if_pos (nI_lt c (by omega))]
        obtain ⟨q, e, r1, r2, r3⟩ := c_cutOne kp kw (j := i) (by omega) mm c
        have e : fX8_cutOne (nI (skB b n (ps b n i))) m = some (nI (ps b n (i + 1)), q) := e
        have fq : Fr WX8_cutOne m q := frX8_cutOne _ _ _ e
        have qf : Fr WX8_cut μ q := mf.trans (fq.mono (fun x y => sub1))
        have im : (nI (i + 1) : Int32) - 1 = nI i := nI_pred i
        have bi : inb (nI i) 402 := inbN (by omega) (by omega)
        have ci : (nI i).toNatClampNeg = i := nI_clamp (by omega)
        have qt : ∀ j, j < i → cTok b n j q ∧ 2 ≤ tK b n j := by
          intro j hj
          refine ⟨?_, (mt j hj).2⟩
          have c := (mt j hj).1
          have d := r3 j (by omega)
          unfold cTok at c ⊢
          rw [d.1, d.2.1, d.2.2]; exact c
        have k1 : 1 ≤ tK b n i := by
          unfold tK tkK
          rw [if_pos (show tS b n i < n from c)]
          have s1 := (sgN_r (b (tS b n i)) (h3 _)).1
          have w2 := (wkd_2 (ltL b (tS b n i) (leB b n (tS b n i) - tS b n i))).1
          split
          · split <;> omega
          · split
            · split <;> omega
            · exact s1
        have k33 : tK b n i ≤ 33 := by
          unfold tK tkK
          rw [if_pos (show tS b n i < n from c)]
          have s1 := (sgN_r (b (tS b n i)) (h3 _)).2.1
          have w2 := (wkd_2 (ltL b (tS b n i) (leB b n (tS b n i) - tS b n i))).2.1
          split
          · split <;> omega
          · split
            · split <;> omega
            · omega
        rw [e, bind_s]
        simp only [r1, im, if_pos bi, ci]
        rw [r2.1]
        by_cases k : tK b n i = 1
        · rw [if_pos (by rw [k]; rfl)]
          refine ⟨q, rfl, ?_⟩
          intro t ht hk
          rcases Nat.lt_trichotomy t i with a | a | a
          · exact (qt t a).1
          · subst a; exact r2
          · have := hk i a; omega
        · rw [if_neg (show ¬ nI (tK b n i) = 1 from fun z => k ((nI_eq (b := 1) (by omega) (by omega)).1 z)), nI_1]
          refine ih (i + 1) f q (by omega) qf r1 ?_
          intro j hj
          rcases (show j < i ∨ j = i by omega) with a | a
          · exact qt j a
          · subst a; exact ⟨r2, by omega⟩
      · have es : tS b n i = n := by unfold tS; unfold tS at tb; omega
        have k0 : tK b n i = 0 := by unfold tK; rw [if_neg (by omega)]
        rw [if_neg (nI_nlt (by omega) (by unfold tS at tb; omega))]
        obtain ⟨q, e, r1, r2, r3, r4, r5⟩ := c_add (k := 0) (p := n) (v := 0) (j := i) (by omega) mm
        refine ⟨q, by rw [show fX8_add 0 (nI n) 0 m = some q from e, bind_s], ?_⟩
        intro t ht hk
        rcases Nat.lt_trichotomy t i with a | a | a
        · have c := (mt t a).1
          have d := r5 t (by omega)
          unfold cTok at c ⊢
          rw [d.1, d.2.1, d.2.2]; exact c
        · subst a
          exact ⟨by rw [k0]; exact r2, by rw [es]; exact r3, fun z => by omega, fun z => by omega⟩
        · have := hk i a; omega
  have := go 401 0 (4096 - 402) (wI μ 4 4 0) (by omega) (Fr.rfl.wI (by simp [WX8_cut, inW])) (by rw [wI_i, if_pos ⟨rfl, rfl⟩]; rfl) (fun j hj => by omega)
  rw [show 401 + 1 + (4096 - 402) = FU by unfold FU; omega] at this
  exact this
