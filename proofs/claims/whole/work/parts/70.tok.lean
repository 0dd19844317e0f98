/-! ===== tokens: bytes, and what they spell ===== -/
def bI (k : Nat) : Int32 := if k < 128 then nI k else nI k - 256
def bnum (x : Int32) : Nat := x.toInt8.toUInt8.toNat
theorem i8_all : ∀ k, k < 256 → (Int8.ofNat k).toInt32 = bI k := by decide +kernel
theorem byte_ok {x : Int32} (h : x.toInt8.toInt32 = x) : x = bI (bnum x) ∧ bnum x < 256 := by
  have l : bnum x < 256 := x.toInt8.toUInt8.toNat_lt
  refine ⟨?_, l⟩
  rw [← i8_all _ l]
  have e : Int8.ofNat (bnum x) = x.toInt8 := by
    unfold bnum
    apply Int8.toBitVec.inj
    simp
  rw [e]; exact h.symm
def isBlN (k : Nat) : Bool := k == 9 || (k == 10 || (k == 13 || k == 32))
def isLtN (k : Nat) : Bool := decide (97 ≤ k) && decide (k ≤ 122)
def isDgN (k : Nat) : Bool := decide (48 ≤ k) && decide (k ≤ 57)
def sgN (k : Nat) : Nat := if k = 59 then 4 else if k = 61 then 5 else if k = 43 then 6 else if k = 45 then 7 else if k = 42 then 8 else if k = 47 then 9 else if k = 60 then 10 else if k = 40 then 11 else if k = 41 then 12 else 1
theorem cb_mu (a : Int32) (μ : Mem) : fX8_isBlank a μ = fX8_isBlank a m00 ∧ fX8_isLetter a μ = fX8_isLetter a m00 ∧ fX8_isDigit a μ = fX8_isDigit a m00 := ⟨rfl, rfl, rfl⟩
theorem cb_all : ∀ k, k < 256 → fX8_isBlank (bI k) m00 = some (isBlN k) ∧ fX8_isLetter (bI k) m00 = some (isLtN k) ∧ fX8_isDigit (bI k) m00 = some (isDgN k) := by decide +kernel
theorem c_isBlank {k : Nat} (h : k < 256) (μ : Mem) : fX8_isBlank (bI k) μ = some (isBlN k) := by rw [(cb_mu _ μ).1]; exact (cb_all k h).1
theorem c_isLetter {k : Nat} (h : k < 256) (μ : Mem) : fX8_isLetter (bI k) μ = some (isLtN k) := by rw [(cb_mu _ μ).2.1]; exact (cb_all k h).2.1
theorem c_isDigit {k : Nat} (h : k < 256) (μ : Mem) : fX8_isDigit (bI k) μ = some (isDgN k) := by rw [(cb_mu _ μ).2.2]; exact (cb_all k h).2.2
theorem sg_all : ∀ k, k < 256 → (if (0 : Int32) < bI k then (if idxS (i2c (bI k)) < 0 then (1 : Int32) else 4 + idxS (i2c (bI k))) else 1) = nI (sgN k) := by decide +kernel
/-! words and names -/
theorem pkw_app (b : Nat) (l : List Nat) (x : Nat) : pkw b (l ++ [x]) = pkw b l * b + x := by unfold pkw; rw [List.foldl_append]; rfl
def ltL (b : Nat → Nat) (i c : Nat) : List Nat := (List.range c).map fun j => b (i + j) - 96
theorem ltL_s (b : Nat → Nat) (i c : Nat) : ltL b i (c + 1) = ltL b i c ++ [b (i + c) - 96] := by unfold ltL; rw [List.range_succ, List.map_append]; rfl
theorem ltL_len (b : Nat → Nat) (i c : Nat) : (ltL b i c).length = c := by unfold ltL; simp
def dgV (b : Nat → Nat) (i : Nat) : Nat → Nat
  | 0 => 0
  | c + 1 => dgV b i c * 10 + (b (i + c) - 48)
def wkd (l : List Nat) : Nat := if ffd (fun w => wordL.getD w [] == l) 21 0 < 21 then 13 + ffd (fun w => wordL.getD w [] == l) 21 0 else 2
/-! the row of tokens -/
def skB (b : Nat → Nat) (n i : Nat) : Nat := ffd (fun j => !isBlN (b j)) (n - i) i
def leB (b : Nat → Nat) (n i : Nat) : Nat := ffd (fun j => !isLtN (b j)) (n - i) i
def deB (b : Nat → Nat) (n i : Nat) : Nat := ffd (fun j => !isDgN (b j)) (n - i) i
def tkE (b : Nat → Nat) (n i : Nat) : Nat := if isLtN (b i) = true then leB b n i else if isDgN (b i) = true then deB b n i else i + 1
def tkK (b : Nat → Nat) (n i : Nat) : Nat := if isLtN (b i) = true then (if 8 < leB b n i - i then 1 else wkd (ltL b i (leB b n i - i))) else if isDgN (b i) = true then (if 4 < deB b n i - i then 1 else 3) else sgN (b i)
def ps (b : Nat → Nat) (n : Nat) : Nat → Nat
  | 0 => 0
  | j + 1 => if skB b n (ps b n j) < n then tkE b n (skB b n (ps b n j)) else n
def tS (b : Nat → Nat) (n j : Nat) : Nat := skB b n (ps b n j)
def tK (b : Nat → Nat) (n j : Nat) : Nat := if tS b n j < n then tkK b n (tS b n j) else 0
def tV (b : Nat → Nat) (n j : Nat) : Nat := dgV b (tS b n j) (deB b n (tS b n j) - tS b n j)
def tN (b : Nat → Nat) (n j : Nat) : List Nat := ltL b (tS b n j) (leB b n (tS b n j) - tS b n j)
theorem ffd_bd (p : Nat → Bool) {n i : Nat} (h : i ≤ n) : i ≤ ffd p (n - i) i ∧ ffd p (n - i) i ≤ n := by have := ffd_le p (n - i) i; omega
theorem ffd_hd {p : Nat → Bool} {n i : Nat} (h : i < n) (hp : p i = false) : i < ffd p (n - i) i := by
  have le := ffd_le p (n - i) i
  rcases (show n - i = (n - i - 1) + 1 by omega) with e
  rw [e, ffd, if_neg (by rw [hp]; decide)]
  have := ffd_le p (n - i - 1) (i + 1)
  omega
theorem tkE_bd {b : Nat → Nat} {n i : Nat} (h : i < n) : i < tkE b n i ∧ tkE b n i ≤ n := by
  unfold tkE leB deB
  cases c : isLtN (b i) with
  | true =>
    rw [if_pos rfl]
    exact ⟨ffd_hd h (by rw [c]; rfl), (ffd_bd _ (by omega)).2⟩
  | false =>
    rw [if_neg (by decide)]
    cases d : isDgN (b i) with
    | true =>
      rw [if_pos rfl]
      exact ⟨ffd_hd h (by rw [d]; rfl), (ffd_bd _ (by omega)).2⟩
    | false => rw [if_neg (by decide)]; omega
theorem ps_le (b : Nat → Nat) (n : Nat) : ∀ j, ps b n j ≤ n
  | 0 => Nat.zero_le _
  | j + 1 => by
    rw [ps]
    by_cases c : skB b n (ps b n j) < n
    · rw [if_pos c]; exact (tkE_bd c).2
    · rw [if_neg c]; exact Nat.le_refl _
theorem tS_bd (b : Nat → Nat) (n j : Nat) : ps b n j ≤ tS b n j ∧ tS b n j ≤ n := ffd_bd _ (ps_le b n j)
theorem tS_next {b : Nat → Nat} {n j : Nat} (h : tS b n j < n) : tS b n j < ps b n (j + 1) := by
  rw [ps, if_pos (show skB b n (ps b n j) < n from h)]
  exact (tkE_bd (show skB b n (ps b n j) < n from h)).1
theorem tS_lt {b : Nat → Nat} {n i : Nat} : ∀ {k : Nat}, (∀ j, j < i + k → tS b n j < n) → 0 < k → tS b n i < tS b n (i + k)
  | 0, _, h => by omega
  | k + 1, h, _ => by
    have s1 := tS_next (h (i + k) (by omega))
    have s2 := (tS_bd b n (i + k + 1)).1
    rcases Nat.eq_zero_or_pos k with z | z
    · subst z; exact Nat.lt_of_lt_of_le s1 s2
    · have := tS_lt (i := i) (k := k) (fun j hj => h j (by omega)) z
      rw [show i + (k + 1) = i + k + 1 by omega]
      omega
theorem tK_pos {b : Nat → Nat} {n j : Nat} (h : 2 ≤ tK b n j) : tS b n j < n := by
  unfold tK at h
  apply Classical.byContradiction
  intro c
  rw [if_neg c] at h; omega
/-! ===== the component cuts its tape ===== -/
/-- the component's tape -/
abbrev cTp (b : Nat → Nat) (n : Nat) (μ : Mem) : Prop := μ.1 1 1 = nI n ∧ n ≤ 2000 ∧ (∀ j, b j < 256) ∧ ∀ j, j < n → μ.1 2 j = bI (b j)
theorem lfindAt {R : Type} {L : Nat → Int32 → Option R} {X : Option R} {N i : Nat} (p : Nat → Bool) (ret : Nat → Option R) (hN : N < 4096) (hi : i ≤ N)
    (ht : ∀ n i, i < N → p i = true → L (n + 1) (nI i) = ret i)
    (hf : ∀ n i, i < N → p i = false → L (n + 1) (nI i) = L n (nI (i + 1)))
    (he : ∀ n, L (n + 1) (nI N) = X) : L FU (nI i) = if ffd p (N - i) i < N then ret (ffd p (N - i) i) else X := by
  have h := lfind_go N p ret ht hf he (N - i) i (4096 - (N - i + 1)) (by omega)
  rw [show N - i + 1 + (4096 - (N - i + 1)) = FU by unfold FU; omega] at h
  exact h
theorem c_behind {b : Nat → Nat} {n i : Nat} {μ : Mem} (h : cTp b n μ) (hi : i ≤ n) : fX8_behindBlanks (nI i) μ = some (nI (skB b n i)) := by
  obtain ⟨h1, h2, h3, h4⟩ := h
  have step : ∀ f j, j < n → fX8_behindBlanks_2 μ (fun y2 => some y2) (f + 1) (nI j) = if isBlN (b j) = true then fX8_behindBlanks_2 μ (fun y2 => some y2) f (nI (j + 1)) else some (nI j) := by
    intro f j hj
    have bj : inb (nI j) 2000 := inbN (by omega) (by omega)
    have cj : (nI j).toNatClampNeg = j := nI_clamp (by omega)
    rw [fX8_behindBlanks_2, h1, if_pos (nI_lt hj (by omega))]
    simp only [if_pos bj, cj]
    rw [h4 j hj, c_isBlank (h3 j), bind_s, nI_1]
  unfold fX8_behindBlanks
  rw [lfindAt (L := fun f j => fX8_behindBlanks_2 μ (fun y2 => some y2) f j) (X := some (nI n)) (N := n) (i := i) (fun j => !isBlN (b j)) (fun j => some (nI j)) (by omega) hi
    (by intro f j hj hp; show fX8_behindBlanks_2 _ _ _ _ = _; rw [step f j hj, if_neg (by simpa using hp)])
    (by intro f j hj hp; show fX8_behindBlanks_2 _ _ _ _ = _; rw [step f j hj, if_pos (by simpa using hp)])
    (by intro f; show fX8_behindBlanks_2 _ _ _ _ = _; rw [fX8_behindBlanks_2, h1, if_neg (nI_nlt (by omega) (by omega))])]
  have bd := ffd_bd (fun j => !isBlN (b j)) hi
  unfold skB
  by_cases c : ffd (fun j => !isBlN (b j)) (n - i) i < n
  · rw [if_pos c]
  · rw [if_neg c, show ffd (fun j => !isBlN (b j)) (n - i) i = n by omega]
theorem lsh_lN (m : Nat) : lsh (lN m) 5 = lN (m * 32) := by
  unfold lsh
  apply Int64.toBitVec.inj
  rw [Int64.toBitVec_shiftLeft, lN_bv, lN_bv, show (((5 : Int32).toInt64 &&& 63).toBitVec.smod 64) = 5#64 by decide]
  apply BitVec.eq_of_toNat_eq
  simp [Nat.shiftLeft_eq]
theorem let_all : ∀ k, k < 256 → isLtN k = true → ((bI k - 97) + 1).toInt64 = lN (k - 96) ∧ k - 96 < 32 ∧ 1 ≤ k - 96 ∧ k - 96 < 27 := by decide +kernel
theorem dig_all : ∀ k, k < 256 → isDgN k = true → bI k - 48 = nI (k - 48) ∧ k - 48 < 10 := by decide +kernel
theorem or_add {m c : Nat} (h : c < 32) : m * 32 ||| c = m * 32 + c := by
  have := Nat.two_pow_add_eq_or_of_lt (i := 5) (b := c) h m
  rw [Nat.mul_comm m 32]; exact this.symm
theorem c_letLoop {b : Nat → Nat} {n i : Nat} {μ : Mem} {K : Int32 → Int64 → Option (Int32 × Mem)} {w : Int32} (h : cTp b n μ) (hi : i ≤ n) : fX8_cutLetters_5 w μ K FU (nI i) 0 = K (nI (leB b n i)) (lN (pkw 32 (ltL b i (leB b n i - i)))) := by
  obtain ⟨h1, h2, h3, h4⟩ := h
  have bd := ffd_bd (fun j => !isLtN (b j)) hi
  obtain ⟨a, e, _, ia⟩ := lupE (L := fun f j (a : Int64) => fX8_cutLetters_5 w μ K f j a) (K := fun a => K (nI (leB b n i)) a) (leB b n i) (fun j a => i ≤ j ∧ a = lN (pkw 32 (ltL b i (j - i))))
    (by
      rintro f j a hj ⟨k1, rfl⟩
      have hjn : j < n := by unfold leB at hj; omega
      have lt : isLtN (b j) = true := by
        have := ffd_no (fun j => !isLtN (b j)) (n - i) i j k1 hj
        simpa using this
      have la := let_all (b j) (h3 j) lt
      have bj : inb (nI j) 2000 := inbN (by omega) (by omega)
      have cj : (nI j).toNatClampNeg = j := nI_clamp (by omega)
      show ∃ b2, fX8_cutLetters_5 _ _ _ _ _ _ = _ ∧ _
      rw [fX8_cutLetters_5, h1, if_pos (nI_lt hjn (by omega))]
      simp only [if_pos bj, cj, nm_ap]
      rw [h4 j hjn, c_isLetter (h3 j), bind_s, if_pos lt, la.1, lsh_lN, lN_or, or_add la.2.1, nI_1]
      refine ⟨_, rfl, by omega, ?_⟩
      rw [show j + 1 - i = (j - i) + 1 by omega, ltL_s, pkw_app, show i + (j - i) = j by omega])
    (by
      rintro f a _
      show fX8_cutLetters_5 _ _ _ _ _ _ = _
      rw [fX8_cutLetters_5, h1]
      by_cases c : leB b n i < n
      · have yes := ffd_yes (fun j => !isLtN (b j)) (n - i) i (by unfold leB at c; omega)
        have no : isLtN (b (leB b n i)) = false := by unfold leB; simpa using yes
        have bj : inb (nI (leB b n i)) 2000 := inbN (by omega) (by omega)
        have cj : (nI (leB b n i)).toNatClampNeg = leB b n i := nI_clamp (by omega)
        rw [if_pos (nI_lt c (by omega))]
        simp only [if_pos bj, cj]
        rw [h4 _ c, c_isLetter (h3 _), bind_s, if_neg (by rw [no]; decide)]
      · rw [if_neg (nI_nlt (by omega) (by unfold leB; omega))])
    (leB b n i - i) i (4096 - (leB b n i - i + 1)) 0 (by unfold leB; omega) ⟨Nat.le_refl _, by rw [Nat.sub_self]; rfl⟩
  rw [show leB b n i - i + 1 + (4096 - (leB b n i - i + 1)) = FU by unfold leB FU; omega] at e
  rw [show fX8_cutLetters_5 w μ K FU (nI i) 0 = K (nI (leB b n i)) a from e, ia]
theorem c_digLoop {b : Nat → Nat} {n i : Nat} {μ : Mem} {K : Int32 → Int32 → Option (Int32 × Mem)} {w : Int32} (h : cTp b n μ) (hi : i ≤ n) : fX8_cutDigits_5 w μ K FU (nI i) 0 = K (nI (deB b n i)) (nI (dgV b i (deB b n i - i))) := by
  obtain ⟨h1, h2, h3, h4⟩ := h
  have bd := ffd_bd (fun j => !isDgN (b j)) hi
  obtain ⟨a, e, _, ia⟩ := lupE (L := fun f j (a : Int32) => fX8_cutDigits_5 w μ K f j a) (K := fun a => K (nI (deB b n i)) a) (deB b n i) (fun j a => i ≤ j ∧ a = nI (dgV b i (j - i)))
    (by
      rintro f j a hj ⟨k1, rfl⟩
      have hjn : j < n := by unfold deB at hj; omega
      have lt : isDgN (b j) = true := by
        have := ffd_no (fun j => !isDgN (b j)) (n - i) i j k1 hj
        simpa using this
      have la := dig_all (b j) (h3 j) lt
      have bj : inb (nI j) 2000 := inbN (by omega) (by omega)
      have cj : (nI j).toNatClampNeg = j := nI_clamp (by omega)
      show ∃ b2, fX8_cutDigits_5 _ _ _ _ _ _ = _ ∧ _
      rw [fX8_cutDigits_5, h1, if_pos (nI_lt hjn (by omega))]
      simp only [if_pos bj, cj, nm_ap]
      rw [h4 j hjn, c_isDigit (h3 j), bind_s, if_pos lt, la.1, L_10, pk_mul, nI_add, nI_1]
      refine ⟨_, rfl, by omega, ?_⟩
      rw [show j + 1 - i = (j - i) + 1 by omega, dgV, show i + (j - i) = j by omega])
    (by
      rintro f a _
      show fX8_cutDigits_5 _ _ _ _ _ _ = _
      rw [fX8_cutDigits_5, h1]
      by_cases c : deB b n i < n
      · have yes := ffd_yes (fun j => !isDgN (b j)) (n - i) i (by unfold deB at c; omega)
        have no : isDgN (b (deB b n i)) = false := by unfold deB; simpa using yes
        have bj : inb (nI (deB b n i)) 2000 := inbN (by omega) (by omega)
        have cj : (nI (deB b n i)).toNatClampNeg = deB b n i := nI_clamp (by omega)
        rw [if_pos (nI_lt c (by omega))]
        simp only [if_pos bj, cj]
        rw [h4 _ c, c_isDigit (h3 _), bind_s, if_neg (by rw [no]; decide)]
      · rw [if_neg (nI_nlt (by omega) (by unfold deB; omega))])
    (deB b n i - i) i (4096 - (deB b n i - i + 1)) 0 (by unfold deB; omega) ⟨Nat.le_refl _, by rw [Nat.sub_self]; rfl⟩
  rw [show deB b n i - i + 1 + (4096 - (deB b n i - i + 1)) = FU by unfold deB FU; omega] at e
  rw [show fX8_cutDigits_5 w μ K FU (nI i) 0 = K (nI (deB b n i)) a from e, ia]
