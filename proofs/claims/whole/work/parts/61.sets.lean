/-! ===== sets of guests ===== -/
theorem and_bit {a b x y : Nat} (hx : x < 2) (hy : y < 2) : (x + 2 * a) &&& (y + 2 * b) = (x &&& y) + 2 * (a &&& b) := by
  have h1 := Nat.and_mod_two_pow (a := x + 2 * a) (b := y + 2 * b) (n := 1)
  have h2 := Nat.and_div_two_pow (a := x + 2 * a) (b := y + 2 * b) (n := 1)
  rw [show (x + 2 * a) % 2 ^ 1 = x by omega, show (y + 2 * b) % 2 ^ 1 = y by omega] at h1
  rw [show (x + 2 * a) / 2 ^ 1 = a by omega, show (y + 2 * b) / 2 ^ 1 = b by omega] at h2
  omega
abbrev isSub (p m : Nat) : Prop := p &&& m = p
theorem isSub.le {p m : Nat} (h : isSub p m) : p ≤ m := by have : p &&& m ≤ m := Nat.and_le_right; rw [h] at this; exact this
theorem isSub.bit {p m : Nat} (h : isSub p m) {i : Nat} (hp : p.testBit i = true) : m.testBit i = true := by
  rw [← h, Nat.testBit_and, Bool.and_eq_true] at hp; exact hp.2
theorem isSub.of {p m : Nat} (h : ∀ i, p.testBit i = true → m.testBit i = true) : isSub p m := by
  apply Nat.eq_of_testBit_eq
  intro i
  rw [Nat.testBit_and]
  cases q : p.testBit i with
  | false => rfl
  | true => rw [h i q]; rfl
theorem sub_and (a m : Nat) : isSub (a &&& m) m := by
  show (a &&& m) &&& m = a &&& m
  rw [Nat.and_assoc, Nat.and_self]
/-- the next smaller part of a set -/
theorem sub_next : ∀ (p q m : Nat), isSub p m → isSub q m → q < p → q ≤ (p - 1) &&& m := by
  intro p
  induction p using Nat.strongRecOn with
  | _ p ih =>
    intro q m hp hq hlt
    have ep := Nat.div_add_mod p 2
    have eq := Nat.div_add_mod q 2
    have em := Nat.div_add_mod m 2
    have bp : p % 2 < 2 := by omega
    have bq : q % 2 < 2 := by omega
    have bm : m % 2 < 2 := by omega
    have sp : (p % 2 &&& m % 2) + 2 * (p / 2 &&& m / 2) = p % 2 + 2 * (p / 2) := by
      rw [← and_bit bp bm, show p % 2 + 2 * (p / 2) = p by omega, show m % 2 + 2 * (m / 2) = m by omega]; exact hp
    have sq : (q % 2 &&& m % 2) + 2 * (q / 2 &&& m / 2) = q % 2 + 2 * (q / 2) := by
      rw [← and_bit bq bm, show q % 2 + 2 * (q / 2) = q by omega, show m % 2 + 2 * (m / 2) = m by omega]; exact hq
    have a1 : p % 2 &&& m % 2 ≤ p % 2 := Nat.and_le_left
    have a2 : q % 2 &&& m % 2 ≤ q % 2 := Nat.and_le_left
    have a3 : q % 2 &&& m % 2 ≤ m % 2 := Nat.and_le_right
    have sp2 : p / 2 &&& m / 2 = p / 2 := by omega
    have sq2 : q / 2 &&& m / 2 = q / 2 := by omega
    have qm : q % 2 ≤ m % 2 := by omega
    rcases (show p % 2 = 1 ∨ p % 2 = 0 by omega) with c | c
    · have : (p - 1) &&& m = p - 1 := by
        rw [show p - 1 = 0 + 2 * (p / 2) by omega, show m = m % 2 + 2 * (m / 2) by omega, and_bit (by omega) bm, sp2, Nat.zero_and]
      rw [this]; omega
    · have e : (p - 1) &&& m = (1 &&& m % 2) + 2 * ((p / 2 - 1) &&& (m / 2)) := by
        rw [← and_bit (by omega) bm, show 1 + 2 * (p / 2 - 1) = p - 1 by omega, show m % 2 + 2 * (m / 2) = m by omega]
      have i1 := ih (p / 2) (by omega) (q / 2) (m / 2) sp2 sq2 (by omega)
      have o1 : 1 &&& m % 2 = m % 2 := by
        rcases (show m % 2 = 0 ∨ m % 2 = 1 by omega) with d | d <;> rw [d] <;> rfl
      rw [e, o1]
      omega
theorem lsub {α R : Type} {L : Nat → Int32 → α → Option R} {K : α → Option R} (m : Nat) (I : Nat → α → Prop)
    (hs : ∀ n p a, 0 < p → isSub p m → I p a → ∃ b, L (n + 1) (nI p) a = L n (nI ((p - 1) &&& m)) b ∧ I ((p - 1) &&& m) b)
    (he : ∀ n a, I 0 a → L (n + 1) (nI 0) a = K a) : ∀ (n p : Nat) (a : α), p < n → isSub p m → I p a → ∃ b, L n (nI p) a = K b ∧ I 0 b := by
  intro n
  induction n with
  | zero => intro p a h; omega
  | succ n ih =>
    intro p a h sp hi
    rcases Nat.eq_zero_or_pos p with c | c
    · subst c; exact ⟨a, he n a hi, hi⟩
    · obtain ⟨b, e, ib⟩ := hs n p a c sp hi
      have lt : (p - 1) &&& m ≤ p - 1 := Nat.and_le_left
      obtain ⟨b2, e2, i2⟩ := ih ((p - 1) &&& m) b (by omega) (sub_and _ _) ib
      exact ⟨b2, e.trans e2, i2⟩
theorem lsubF {α R : Type} {L : Nat → Int32 → α → Option R} {K : α → Option R} {m p : Nat} {a : α} (I : Nat → α → Prop) (hp : p < 4096) (sp : isSub p m) (h0 : I p a)
    (hs : ∀ n p a, 0 < p → isSub p m → I p a → ∃ b, L (n + 1) (nI p) a = L n (nI ((p - 1) &&& m)) b ∧ I ((p - 1) &&& m) b)
    (he : ∀ n a, I 0 a → L (n + 1) (nI 0) a = K a) : ∃ b, L FU (nI p) a = K b ∧ I 0 b := lsub m I hs he FU p a (by unfold FU; omega) sp h0
theorem lupX1 {α R : Type} {L : Nat → Int32 → α → Option R} (N : Nat) (I : Nat → α → Prop) {K : α → Option R} {a : α} (h1 : 1 ≤ N) (hN : N < 4096) (h0 : I 1 a)
    (hs : ∀ n i a, 1 ≤ i → i < N → I i a → ∃ b, L (n + 1) (nI i) a = L n (nI (i + 1)) b ∧ I (i + 1) b)
    (he : ∀ n a, I N a → L (n + 1) (nI N) a = K a) : ∃ b, L FU 1 a = K b ∧ I N b := by
  obtain ⟨b, e, _, h⟩ := lupE (L := L) (K := K) N (fun i a => 1 ≤ i ∧ I i a)
    (by
      rintro n i a hi ⟨k1, k2⟩
      obtain ⟨b, e, h⟩ := hs n i a k1 hi k2
      exact ⟨b, e, by omega, h⟩)
    (by rintro n a ⟨_, k2⟩; exact he n a k2) (N - 1) 1 (4096 - N) a (by omega) ⟨by omega, h0⟩
  rw [show N - 1 + 1 + (4096 - N) = FU by unfold FU; omega] at e
  exact ⟨b, e, h⟩
/-! the least, the most of some values -/
def MinOf (z : Nat) (C : Nat → Prop) (f : Nat → Nat) (v : Nat) : Prop := v ≤ z ∧ (∀ p, C p → v ≤ f p) ∧ (v = z ∨ ∃ p, C p ∧ v = f p)
theorem MinOf.uniq {z : Nat} {C : Nat → Prop} {f g : Nat → Nat} {v w : Nat} (h : MinOf z C f v) (k : MinOf z C g w) (e : ∀ p, C p → f p = g p) : v = w := by
  obtain ⟨h1, h2, h3⟩ := h
  obtain ⟨k1, k2, k3⟩ := k
  have a : v ≤ w := by
    rcases k3 with q | ⟨p, c, q⟩
    · omega
    · have := h2 p c; rw [e p c] at this; omega
  have b : w ≤ v := by
    rcases h3 with q | ⟨p, c, q⟩
    · omega
    · have := k2 p c; rw [← e p c] at this; omega
  omega
theorem MinOf.add {z : Nat} {C D : Nat → Prop} {f : Nat → Nat} {v p : Nat} (h : MinOf z C f v) (k : ∀ q, D q ↔ (C q ∨ q = p)) : MinOf z D f (min v (f p)) := by
  obtain ⟨h1, h2, h3⟩ := h
  refine ⟨by omega, ?_, ?_⟩
  · intro q hq
    rcases (k q).1 hq with c | c
    · have := h2 q c; omega
    · subst c; omega
  · rcases Nat.le_total v (f p) with c | c
    · rw [Nat.min_eq_left c]
      rcases h3 with q | ⟨q, d, e⟩
      · exact Or.inl q
      · exact Or.inr ⟨q, (k q).2 (Or.inl d), e⟩
    · rw [Nat.min_eq_right c]
      exact Or.inr ⟨p, (k p).2 (Or.inr rfl), rfl⟩
theorem MinOf.same {z : Nat} {C D : Nat → Prop} {f : Nat → Nat} {v : Nat} (h : MinOf z C f v) (k : ∀ q, D q ↔ C q) : MinOf z D f v := by
  obtain ⟨h1, h2, h3⟩ := h
  refine ⟨h1, fun q hq => h2 q ((k q).1 hq), ?_⟩
  rcases h3 with q | ⟨q, d, e⟩
  · exact Or.inl q
  · exact Or.inr ⟨q, (k q).2 d, e⟩
def MaxOf (z : Nat) (C : Nat → Prop) (f : Nat → Nat) (v : Nat) : Prop := z ≤ v ∧ (∀ p, C p → f p ≤ v) ∧ (v = z ∨ ∃ p, C p ∧ v = f p)
theorem MaxOf.add {z : Nat} {C D : Nat → Prop} {f : Nat → Nat} {v p : Nat} (h : MaxOf z C f v) (k : ∀ q, D q ↔ (C q ∨ q = p)) : MaxOf z D f (max v (f p)) := by
  obtain ⟨h1, h2, h3⟩ := h
  refine ⟨by omega, ?_, ?_⟩
  · intro q hq
    rcases (k q).1 hq with c | c
    · have := h2 q c; omega
    · subst c; omega
  · rcases Nat.le_total v (f p) with c | c
    · rw [Nat.max_eq_right c]
      exact Or.inr ⟨p, (k p).2 (Or.inr rfl), rfl⟩
    · rw [Nat.max_eq_left c]
      rcases h3 with q | ⟨q, d, e⟩
      · exact Or.inl q
      · exact Or.inr ⟨q, (k q).2 (Or.inl d), e⟩
theorem MaxOf.same {z : Nat} {C D : Nat → Prop} {f : Nat → Nat} {v : Nat} (h : MaxOf z C f v) (k : ∀ q, D q ↔ C q) : MaxOf z D f v := by
  obtain ⟨h1, h2, h3⟩ := h
  refine ⟨h1, fun q hq => h2 q ((k q).1 hq), ?_⟩
  rcases h3 with q | ⟨q, d, e⟩
  · exact Or.inl q
  · exact Or.inr ⟨q, (k q).2 d, e⟩
/-! parts -/
theorem xor_sub {p m : Nat} : (p ^^^ (p &&& m) = 0) ↔ isSub p m := by
  constructor
  · intro h
    apply Nat.eq_of_testBit_eq
    intro i
    have : (p ^^^ (p &&& m)).testBit i = false := by rw [h]; simp
    rw [Nat.testBit_xor] at this
    cases a : p.testBit i <;> cases b : (p &&& m).testBit i <;> simp [a, b] at this ⊢
  · intro h
    have h : p &&& m = p := h
    rw [h, Nat.xor_self]
theorem isSub.xor {p m : Nat} (h : isSub p m) : m ^^^ (m &&& p) = m ^^^ p := by
  have h : p &&& m = p := h
  rw [Nat.and_comm, h]
theorem sub_xsub {p m : Nat} (h : isSub p m) : isSub (m ^^^ p) m := by
  apply isSub.of
  intro i hi
  rw [Nat.testBit_xor] at hi
  cases a : p.testBit i with
  | true => exact h.bit a
  | false => rw [a] at hi; simpa using hi
theorem sub_xlt {p m : Nat} (h : isSub p m) (hp : 0 < p) : m ^^^ p < m := by
  have h1 := (sub_xsub h).le
  have h2 : m ^^^ p ≠ m := by
    intro q
    have : m ^^^ (m ^^^ p) = p := by rw [← Nat.xor_assoc, Nat.xor_self, Nat.zero_xor]
    rw [q, Nat.xor_self] at this
    omega
  omega
theorem c_alive {A : Abs} {μ : Mem} (hA : okA A) (hT : cT 199 A.T μ) (hS : cS 9 A.S μ) : fX5_alive 9 199 μ = some (nI (livB A.T A.S)) := by
  have g7 := hA.T.g7
  unfold fX5_alive
  rw [show μ.1 199 3 = _ from hT.nG, show μ.1 9 2 = _ from hS.dd, nI_shl _ (by omega), show nI (2 ^ A.T.nG) - 1 = nI (2 ^ A.T.nG - 1) from pk_sub (b := 1) (Nat.two_pow_pos _), nI_dif]
  congr 2
  apply Nat.eq_of_testBit_eq
  intro g
  unfold livB
  rw [Nat.testBit_xor, Nat.testBit_and, Nat.testBit_two_pow_sub_one, bs_bit, bs_bit]
  by_cases c : g < A.T.nG
  · have : g < 7 := by omega
    simp [c, this]
  · simp [c]
theorem r_isPart (p m : Nat) (hp : p < 2 ^ 31) (μ : Mem) : fX11_isPart (nI p) (nI m) μ = some (decide (isSub p m)) := by
  unfold fX11_isPart
  rw [nI_dif]
  have lt : p ^^^ (p &&& m) < 2 ^ 31 := Nat.xor_lt_two_pow hp (Nat.lt_of_le_of_lt Nat.and_le_left hp)
  by_cases c : isSub p m
  · rw [if_pos (by rw [xor_sub.2 c]; rfl), decide_eq_true c]
  · have : p ^^^ (p &&& m) ≠ 0 := fun q => c (xor_sub.1 q)
    rw [if_neg (nI_ne0 (by omega) lt), decide_eq_false c]
theorem dif_zero {p m : Nat} (hp : p < 2 ^ 31) : (nI p &&& (nI m ^^^ (-1)) = 0) ↔ isSub p m := by
  rw [nI_dif]
  have lt : p ^^^ (p &&& m) < 2 ^ 31 := Nat.xor_lt_two_pow hp (Nat.lt_of_le_of_lt Nat.and_le_left hp)
  constructor
  · intro q
    apply xor_sub.1
    apply Classical.byContradiction
    intro c
    exact nI_ne0 (by omega) lt q
  · intro q; rw [xor_sub.2 q]; rfl
