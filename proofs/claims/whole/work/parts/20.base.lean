/-! ===== numbers and sets of bits ===== -/
theorem sm32 : ∀ g, g < 32 → ((nI g &&& 31).toBitVec.smod 32).toNat = g := by decide +kernel
theorem nI_shl : ∀ g, g < 31 → ((1 : Int32) <<< (nI g &&& 31)) = nI (2 ^ g) := by decide +kernel
theorem nI_shr {m g : Nat} (hm : m < 2 ^ 31) (hg : g < 32) : nI m >>> (nI g &&& 31) = nI (m / 2 ^ g) := pk_shrN hm _ g (sm32 g hg)
theorem nI_bit {m g : Nat} (hm : m < 2 ^ 31) (hg : g < 32) : (nI m >>> (nI g &&& 31)) &&& 1 = nI (m / 2 ^ g % 2) := by
  rw [nI_shr hm hg, pk_andN (Nat.lt_of_le_of_lt (Nat.div_le_self _ _) (by omega)) 1 (by decide)]
theorem nI_and (a b : Nat) : nI a &&& nI b = nI (a &&& b) := by
  unfold nI; apply Int32.toBitVec.inj; simp [BitVec.ofNat_and]
theorem nI_or (a b : Nat) : nI a ||| nI b = nI (a ||| b) := by
  unfold nI; apply Int32.toBitVec.inj; simp [BitVec.ofNat_or]
theorem nI_xor (a b : Nat) : nI a ^^^ nI b = nI (a ^^^ b) := by
  unfold nI; apply Int32.toBitVec.inj; simp [BitVec.ofNat_xor]
theorem nI_dif (a b : Nat) : nI a &&& (nI b ^^^ (-1)) = nI (a ^^^ (a &&& b)) := by
  rw [← nI_xor, ← nI_and]
  apply Int32.toBitVec.inj
  simp only [Int32.toBitVec_and, Int32.toBitVec_xor]
  have h : (Int32.toBitVec (-1)) = BitVec.allOnes 32 := by decide
  rw [h]
  ext i hi
  rw [BitVec.getElem_and, BitVec.getElem_xor, BitVec.getElem_xor, BitVec.getElem_and, BitVec.getElem_allOnes]
  cases (nI a).toBitVec[i] <;> cases (nI b).toBitVec[i] <;> rfl
theorem bit_one {m g : Nat} : (nI (m / 2 ^ g % 2) = 1) ↔ m.testBit g = true := by
  rw [Nat.testBit_eq_decide_div_mod_eq]
  have : (1 : Int32) = nI 1 := rfl
  rw [this, nI_eq (by omega) (by omega)]
  simp
theorem bit_zero {m g : Nat} : (nI (m / 2 ^ g % 2) = 0) ↔ m.testBit g = false := by
  rw [Nat.testBit_eq_decide_div_mod_eq]
  have : (0 : Int32) = nI 0 := rfl
  rw [this, nI_eq (by omega) (by omega)]
  simp
def bs (p : Nat → Bool) : Nat → Nat
  | 0 => 0
  | n + 1 => bs p n ||| (if p n = true then 2 ^ n else 0)
theorem bs_lt (p : Nat → Bool) : ∀ n, bs p n < 2 ^ n
  | 0 => Nat.one_pos
  | n + 1 => by
    have h := bs_lt p n
    have h2 : 2 ^ n < 2 ^ (n + 1) := Nat.pow_lt_pow_right (by decide) (Nat.lt_succ_self n)
    apply Nat.or_lt_two_pow
    · omega
    · split
      · exact h2
      · exact Nat.two_pow_pos _
theorem bs_bit (p : Nat → Bool) (g : Nat) : ∀ n, (bs p n).testBit g = (decide (g < n) && p g)
  | 0 => by simp [bs]
  | n + 1 => by
    have h := bs_bit p g n
    rw [bs, Nat.testBit_or, h]
    by_cases hp : p n = true
    · rw [if_pos hp, Nat.testBit_two_pow]
      by_cases hg : g = n
      · subst hg; simp [hp]
      · have : ¬ n = g := fun e => hg e.symm
        have e1 : (g < n + 1) = (g < n) := by apply propext; omega
        simp [this, e1]
    · rw [if_neg hp]
      by_cases hg : g = n
      · subst hg; simp at hp; simp [hp]
      · have e1 : (g < n + 1) = (g < n) := by apply propext; omega
        simp [e1]
theorem bs_lt7 (p : Nat → Bool) {n : Nat} (h : n ≤ 7) : bs p n < 128 := Nat.lt_of_lt_of_le (bs_lt p n) (Nat.pow_le_pow_right (by decide) h : 2 ^ n ≤ 2 ^ 7)
theorem bs_lt31 (p : Nat → Bool) {n : Nat} (h : n ≤ 31) : bs p n < 2 ^ 31 := Nat.lt_of_lt_of_le (bs_lt p n) (Nat.pow_le_pow_right (by decide) h)
theorem eq_bits {a b n : Nat} (ha : a < 2 ^ n) (hb : b < 2 ^ n) (h : ∀ g, g < n → a.testBit g = b.testBit g) : a = b := by
  apply Nat.eq_of_testBit_eq
  intro i
  by_cases hi : i < n
  · exact h i hi
  · have h2 : 2 ^ n ≤ 2 ^ i := Nat.pow_le_pow_right (by decide) (by omega)
    rw [Nat.testBit_lt_two_pow (by omega), Nat.testBit_lt_two_pow (by omega)]
theorem bs_ext {p q : Nat → Bool} {n : Nat} (h : ∀ g, g < n → p g = q g) : bs p n = bs q n := by
  apply eq_bits (bs_lt p n) (bs_lt q n)
  intro g hg
  rw [bs_bit, bs_bit, h g hg]
theorem bs_self {m n : Nat} (h : m < 2 ^ n) : bs m.testBit n = m := by
  apply eq_bits (bs_lt _ n) h
  intro g hg
  rw [bs_bit]; simp [hg]
theorem bs_zero {p : Nat → Bool} {n : Nat} : bs p n = 0 ↔ ∀ g, g < n → p g = false := by
  constructor
  · intro h g hg
    have := bs_bit p g n
    rw [h] at this
    simp [hg] at this
    exact this
  · intro h
    apply eq_bits (bs_lt p n) (Nat.two_pow_pos n)
    intro g hg
    rw [bs_bit, h g hg]; simp
/-! a loop that counts up: from i on to N, each turn a step -/
def itr {α : Type} (f : Nat → α → α) : Nat → Nat → α → α
  | 0, _, a => a
  | k + 1, i, a => itr f k (i + 1) (f i a)
theorem itr_succ {α : Type} (f : Nat → α → α) : ∀ (k i : Nat) (a : α), itr f (k + 1) i a = f (i + k) (itr f k i a)
  | 0, _, _ => rfl
  | k + 1, i, a => by
    have h := itr_succ f k (i + 1) (f i a)
    rw [show i + (k + 1) = (i + 1) + k by omega]
    exact h
theorem lup {α R : Type} (L : Nat → Int32 → α → Option R) (N : Nat) (I : Nat → α → Prop) (f : Nat → α → α) (K : α → Option R)
    (hs : ∀ n i a, i < N → I i a → L (n + 1) (nI i) a = L n (nI (i + 1)) (f i a))
    (hI : ∀ i a, i < N → I i a → I (i + 1) (f i a))
    (he : ∀ n a, I N a → L (n + 1) (nI N) a = K a) :
    ∀ (k i n : Nat) (a : α), i + k = N → I i a → L (k + 1 + n) (nI i) a = K (itr f k i a) ∧ I N (itr f k i a)
  | 0, i, n, a, e, h => by
    have : i = N := by omega
    subst this
    rw [show 0 + 1 + n = n + 1 by omega]
    exact ⟨he n a h, h⟩
  | k + 1, i, n, a, e, h => by
    have h1 := lup L N I f K hs hI he k (i + 1) n (f i a) (by omega) (hI i a (by omega) h)
    rw [show k + 1 + 1 + n = (k + 1 + n) + 1 by omega, hs _ i a (by omega) h]
    exact h1
theorem lupF {α R : Type} {L : Nat → Int32 → α → Option R} (N : Nat) (I : Nat → α → Prop) (f : Nat → α → α) {K : α → Option R} {a : α} (hN : N < 4096) (h0 : I 0 a)
    (hs : ∀ n i a, i < N → I i a → L (n + 1) (nI i) a = L n (nI (i + 1)) (f i a))
    (hI : ∀ i a, i < N → I i a → I (i + 1) (f i a))
    (he : ∀ n a, I N a → L (n + 1) (nI N) a = K a) : L FU 0 a = K (itr f N 0 a) ∧ I N (itr f N 0 a) := by
  have h := lup L N I f K hs hI he N 0 (4096 - (N + 1)) a (by omega) h0
  have e : N + 1 + (4096 - (N + 1)) = FU := by unfold FU; omega
  rw [e] at h
  exact h
