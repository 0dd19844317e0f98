/-! ===== the hours of those who are in a Sunday ===== -/
def spn (T : Txt) (g : Nat) : Nat := (2 ^ T.hs g - 1) * 2 ^ T.hr g
def orS (p : Nat → Bool) (f : Nat → Nat) : Nat → Nat
  | 0 => 0
  | n + 1 => orS p f n ||| (if p n = true then f n else 0)
theorem orS_lt {p : Nat → Bool} {f : Nat → Nat} {w : Nat} : ∀ {n : Nat}, (∀ g, g < n → f g < 2 ^ w) → orS p f n < 2 ^ w
  | 0, _ => Nat.two_pow_pos w
  | n + 1, h => by
    rw [orS]
    apply Nat.or_lt_two_pow (orS_lt (fun g hg => h g (by omega)))
    split
    · exact h n (by omega)
    · exact Nat.two_pow_pos w
theorem spn_bit (T : Txt) (g i : Nat) : (spn T g).testBit i = isTh T g i := by
  unfold spn isTh
  rw [Nat.testBit_mul_two_pow, Nat.testBit_two_pow_sub_one]
  by_cases c : T.hr g ≤ i
  · by_cases d : i < T.hr g + T.hs g
    · simp [c, d]; omega
    · simp [c, d]; omega
  · simp [c]
theorem spn_lt {T : Txt} (hT : okT T) {g : Nat} (hg : g < T.nG) : spn T g < 2 ^ 40 := by
  have gg := hT.gu g hg
  unfold spn
  have h1 : (2 ^ T.hs g - 1) * 2 ^ T.hr g < 2 ^ T.hs g * 2 ^ T.hr g := Nat.mul_lt_mul_of_pos_right (Nat.sub_lt (Nat.two_pow_pos _) Nat.one_pos) (Nat.two_pow_pos _)
  rw [← Nat.pow_add] at h1
  exact Nat.lt_of_lt_of_le h1 (Nat.pow_le_pow_right (by decide) (by omega))
def anyN (q : Nat → Bool) : Nat → Bool
  | 0 => false
  | n + 1 => anyN q n || q n
theorem anyN_iff {q : Nat → Bool} : ∀ {n : Nat}, anyN q n = true ↔ ∃ g, g < n ∧ q g = true
  | 0 => by simp [anyN]
  | n + 1 => by
    rw [anyN, Bool.or_eq_true, anyN_iff (n := n)]
    constructor
    · rintro (⟨g, h1, h2⟩ | h)
      · exact ⟨g, by omega, h2⟩
      · exact ⟨n, by omega, h⟩
    · rintro ⟨g, h1, h2⟩
      by_cases c : g = n
      · subst c; exact Or.inr h2
      · exact Or.inl ⟨g, by omega, h2⟩
theorem orS_bit {p : Nat → Bool} {f : Nat → Nat} {i : Nat} : ∀ {n : Nat}, (orS p f n).testBit i = anyN (fun g => p g && (f g).testBit i) n
  | 0 => by simp [orS, anyN]
  | n + 1 => by
    rw [orS, anyN, Nat.testBit_or, orS_bit (n := n)]
    cases p n <;> simp
theorem c_spanOf {t : Nat} {T : Txt} {μ : Mem} (h : cT t T μ) (hT : okT T) {m : Nat} (hm : m < 128) : fX7_spanOf t (nI m) μ = some (lN (orS m.testBit (spn T) T.nG)) := by
  have g7 := hT.g7
  unfold fX7_spanOf
  have h1 := lupF (L := fun n v (a : Int64) => fX7_spanOf_5 t (nI m) μ (fun y2 => some y2) n a v) (K := fun y => some y) (a := (0 : Int64)) T.nG (fun i a => a = lN (orS m.testBit (spn T) i)) (fun i _ => lN (orS m.testBit (spn T) (i + 1))) (by omega) rfl
    (by
      intro n i a hi ha
      have hb : inb (nI i) 7 := inbN (by omega) (by omega)
      have hcl : (nI i).toNatClampNeg = i := nI_clamp (by omega)
      show fX7_spanOf_5 t (nI m) μ (fun y2 => some y2) (n + 1) a (nI i) = _
      rw [fX7_spanOf_5, h.nG, if_pos (nI_lt hi (by omega)), nI_bit (by omega) (by omega), orS]
      cases c : m.testBit i with
      | true =>
        rw [if_pos (bit_one.2 c)]
        simp only [if_pos hb, hcl, nm_ap]
        rw [h.sp i hi, ha, lN_or, nI_1]
        rfl
      | false => rw [if_neg (fun q => by rw [bit_one.1 q] at c; cases c), nI_1, ha]; simp)
    (by intro i a hi ha; rfl)
    (by
      intro n a ha
      show fX7_spanOf_5 t (nI m) μ (fun y2 => some y2) (n + 1) a (nI T.nG) = _
      rw [fX7_spanOf_5, h.nG, if_neg (nI_nlt (by omega) (by omega))])
  rw [h1.2] at h1
  exact h1.1
theorem smn_ext {v w : Nat → Nat} : ∀ {n : Nat}, (∀ i, i < n → v i = w i) → smn v n = smn w n
  | 0, _ => rfl
  | n + 1, h => by rw [smn, smn, smn_ext (fun i hi => h i (by omega)), h n (by omega)]
theorem smn_app (v : Nat → Nat) (a : Nat) : ∀ b, smn v (a + b) = smn v a + smn (fun i => v (a + i)) b
  | 0 => by simp [smn]
  | b + 1 => by rw [← Nat.add_assoc, smn, smn_app v a b, smn]; omega
theorem smn_plus (v w : Nat → Nat) : ∀ n, smn (fun i => v i + w i) n = smn v n + smn w n
  | 0 => rfl
  | n + 1 => by rw [smn, smn, smn, smn_plus v w n]; omega
theorem smn_zero : ∀ n, smn (fun _ => 0) n = 0
  | 0 => rfl
  | n + 1 => by rw [smn, smn_zero n]
theorem pc8_sm (x : Nat) : pc8 (x % 256) = smn (fun i => x / 2 ^ i % 2) 8 := by
  simp only [smn, pc8]
  omega
theorem pc40_sm (m : Nat) : pc40 m = smn (fun i => if m.testBit i = true then 1 else 0) 40 := by
  have e : smn (fun i => if m.testBit i = true then 1 else 0) 40 = smn (fun i => m / 2 ^ i % 2) 40 := by
    apply smn_ext
    intro i _
    rw [Nat.testBit_eq_decide_div_mod_eq]
    by_cases c : m / 2 ^ i % 2 = 1
    · simp [c]
    · have : m / 2 ^ i % 2 = 0 := by omega
      simp [this]
  have d : ∀ k i, m / 2 ^ (k + i) % 2 = m / 2 ^ k / 2 ^ i % 2 := by
    intro k i
    rw [Nat.div_div_eq_div_mul, Nat.pow_add]
  rw [e, show 40 = 8 + (8 + (8 + (8 + 8))) by omega]
  simp only [smn_app, ← Nat.add_assoc]
  simp only [d]
  unfold pc40
  rw [pc8_sm, pc8_sm, pc8_sm, pc8_sm, pc8_sm]
theorem smn_ivl (a b : Nat) : ∀ N, smn (fun i => if a ≤ i ∧ i < a + b then 1 else 0) N = min N (a + b) - min N a
  | 0 => by simp [smn]
  | N + 1 => by
    rw [smn, smn_ivl a b N]
    split <;> omega
theorem smn_spn {T : Txt} (hT : okT T) {g : Nat} (hg : g < T.nG) : smn (fun i => if (spn T g).testBit i = true then 1 else 0) 40 = T.hs g := by
  have gg := hT.gu g hg
  have := smn_ivl (T.hr g) (T.hs g) 40
  rw [smn_ext (w := fun i => if T.hr g ≤ i ∧ i < T.hr g + T.hs g then 1 else 0) (fun i _ => by rw [spn_bit]; unfold isTh; simp), this]
  omega
theorem clash_dis {T : Txt} {g o i : Nat} (h : clash T g o = false) (ne : g ≠ o) (h1 : isTh T g i = true) (h2 : isTh T o i = true) : False := by
  unfold clash at h
  unfold isTh at h1 h2
  have : (g == o) = false := by simpa using ne
  simp [this] at h h1 h2
  omega
def htk (T : Txt) (S : St) (s : Nat) : Nat := smn (fun g => if S.wh g = s then T.hs g else 0) T.nG
def ind (m i : Nat) : Nat := if m.testBit i = true then 1 else 0
theorem ind_or {a b : Nat} (h : ∀ i, a.testBit i = true → b.testBit i = true → False) (i : Nat) : ind (a ||| b) i = ind a i + ind b i := by
  unfold ind
  rw [Nat.testBit_or]
  cases e1 : a.testBit i <;> cases e2 : b.testBit i <;> simp
  exact h i e1 e2
theorem orS_yes {p : Nat → Bool} {f : Nat → Nat} {n : Nat} (h : p n = true) : orS p f (n + 1) = orS p f n ||| f n := by rw [orS, if_pos h]
theorem orS_no {p : Nat → Bool} {f : Nat → Nat} {n : Nat} (h : p n = false) : orS p f (n + 1) = orS p f n := by rw [orS, if_neg (by rw [h]; decide), Nat.or_zero]
def htN (T : Txt) (S : St) (s n : Nat) : Nat := smn (fun g => if S.wh g = s then T.hs g else 0) n
theorem htN_s (T : Txt) (S : St) (s n : Nat) : htN T S s (n + 1) = htN T S s n + (if S.wh n = s then T.hs n else 0) := rfl
theorem htk_or {T : Txt} {S : St} (hT : okT T) (ok : okS T S) {s : Nat} (hs : s < 9) : ∀ n, n ≤ T.nG → smn (ind (orS (fun g => S.wh g == s) (spn T) n)) 40 = htN T S s n
  | 0, _ => by
    rw [show orS (fun g => S.wh g == s) (spn T) 0 = 0 from rfl, smn_ext (v := ind 0) (w := fun _ => 0) (fun i _ => by unfold ind; simp), smn_zero]; rfl
  | n + 1, hn => by
    have ih := htk_or hT ok hs n (by omega)
    rw [htN_s]
    by_cases c : S.wh n = s
    · rw [if_pos c, orS_yes (by simpa using c), smn_ext (fun i _ => ind_or (fun i e1 e2 => by
        rw [orS_bit] at e1
        obtain ⟨g, g1, g2⟩ := anyN_iff.1 e1
        rw [Bool.and_eq_true, spn_bit] at g2
        rw [spn_bit] at e2
        have w : S.wh g = s := by simpa using g2.1
        exact clash_dis (ok.cl g n (by omega) (by omega)) (by omega) g2.2 e2) i), smn_plus, ih]
      congr 1
      exact smn_spn hT (by omega)
    · rw [if_neg c, orS_no (by simpa using c), ih, Nat.add_zero]
def spB (T : Txt) (S : St) (s : Nat) : Nat := orS (fun g => S.wh g == s) (spn T) T.nG
theorem orS_ext {p q : Nat → Bool} {f : Nat → Nat} : ∀ {n : Nat}, (∀ g, g < n → p g = q g) → orS p f n = orS q f n
  | 0, _ => rfl
  | n + 1, h => by rw [orS, orS, orS_ext (fun g hg => h g (by omega)), h n (by omega)]
theorem c_spanIn {t : Nat} {T : Txt} {S : St} {μ : Mem} (h : cT t T μ) (hT : okT T) (s : Nat) : fX7_spanOf t (nI (inB S s)) μ = some (lN (spB T S s)) := by
  have g7 := hT.g7
  rw [c_spanOf h hT (inB_lt S s)]
  unfold spB
  rw [orS_ext (fun g hg => inB_bit (by omega))]
theorem spB_lt {T : Txt} {S : St} (hT : okT T) (s : Nat) : spB T S s < 2 ^ 40 := orS_lt fun g hg => spn_lt hT hg
theorem c_hoursOf {t : Nat} {T : Txt} {S : St} {μ : Mem} (h : cT t T μ) (hT : okT T) (ok : okS T S) {s : Nat} (hs : s < 9) : fX7_hoursOf t (nI (inB S s)) μ = some (nI (htk T S s)) := by
  unfold fX7_hoursOf
  rw [c_spanIn h hT, bind_s, c_lbits (spB_lt hT s), bind_s, pc40_sm]
  exact congrArg (fun x => some (nI x)) (htk_or hT ok hs _ (Nat.le_refl _))
