/-! ===== Long.bitCount ===== -/
theorem lN_and (a b : Nat) : lN a &&& lN b = lN (a &&& b) := by
  unfold lN; apply Int64.toBitVec.inj; simp [BitVec.ofNat_and]
theorem lN_or (a b : Nat) : lN a ||| lN b = lN (a ||| b) := by
  unfold lN; apply Int64.toBitVec.inj; simp [BitVec.ofNat_or]
theorem lN_bv (a : Nat) : (lN a).toBitVec = BitVec.ofNat 64 a := by unfold lN; simp
theorem lush_lN {m : Nat} (hm : m < 2 ^ 64) (k : Nat) (y : Int32) (hy : (y.toInt64.toUInt64 &&& Int64.toUInt64 63).toNat % 64 = k) : lush (lN m) y = lN (m / 2 ^ k) := by
  have e1 : (lN m).toUInt64 = UInt64.ofNat m := rfl
  have e2 : (UInt64.ofNat m >>> (y.toInt64.toUInt64 &&& Int64.toUInt64 63)) = UInt64.ofNat (m / 2 ^ k) := by
    apply UInt64.toNat_inj.1
    rw [UInt64.toNat_shiftRight, hy, UInt64.toNat_ofNat', UInt64.toNat_ofNat', Nat.mod_eq_of_lt hm, Nat.shiftRight_eq_div_pow, Nat.mod_eq_of_lt (Nat.lt_of_le_of_lt (Nat.div_le_self _ _) hm)]
  show ((lN m).toUInt64 >>> (y.toInt64.toUInt64 &&& Int64.toUInt64 63)).toInt64 = _
  rw [e1, e2]
  rfl
theorem lN_i32 (m : Nat) : (lN m).toInt32 = nI m := by
  unfold lN nI
  apply Int32.toBitVec.inj
  simp
theorem and_dig {a b c d : Nat} (ha : a < 256) (hc : c < 256) : (a + 256 * b) &&& (c + 256 * d) = (a &&& c) + 256 * (b &&& d) := by
  have h1 := Nat.and_mod_two_pow (a := a + 256 * b) (b := c + 256 * d) (n := 8)
  have h2 := Nat.and_div_two_pow (a := a + 256 * b) (b := c + 256 * d) (n := 8)
  rw [show (a + 256 * b) % 2 ^ 8 = a by omega, show (c + 256 * d) % 2 ^ 8 = c by omega] at h1
  rw [show (a + 256 * b) / 2 ^ 8 = b by omega, show (c + 256 * d) / 2 ^ 8 = d by omega] at h2
  omega
def s1N (m k : Nat) : Nat := m - ((m / 2) &&& k)
def s2N (m k : Nat) : Nat := (m &&& k) + ((m / 4) &&& k)
def s3N (m k : Nat) : Nat := (m + m / 16) &&& k
theorem s1_byte : ∀ a, a < 256 → ((a / 2) &&& 85) ≤ a ∧ (((a / 2) + 128) &&& 85) = ((a / 2) &&& 85) ∧ s1N a 85 < 256 := by decide +kernel
theorem s1_dig {a b k : Nat} (ha : a < 256) (hb : ((b / 2) &&& k) ≤ b) : s1N (a + 256 * b) (85 + 256 * k) = s1N a 85 + 256 * s1N b k ∧ (((a + 256 * b) / 2) &&& (85 + 256 * k)) ≤ a + 256 * b := by
  obtain ⟨h1, h2, _⟩ := s1_byte a ha
  have e : ((a + 256 * b) / 2) &&& (85 + 256 * k) = ((a / 2) &&& 85) + 256 * ((b / 2) &&& k) := by
    rcases (show b % 2 = 0 ∨ b % 2 = 1 by omega) with q | q
    · rw [show (a + 256 * b) / 2 = a / 2 + 256 * (b / 2) by omega, and_dig (by omega) (by omega)]
    · rw [show (a + 256 * b) / 2 = (a / 2 + 128) + 256 * (b / 2) by omega, and_dig (by omega) (by omega), h2]
  unfold s1N
  rw [e]
  omega
theorem s2_byte : ∀ a, a < 256 → ∀ e, e < 4 → (((a / 4) + 64 * e) &&& 51) = ((a / 4) &&& 51) ∧ s2N (s1N a 85) 51 < 256 := by decide +kernel
theorem s2_dig {a b k : Nat} (ha : a < 256) : s2N (a + 256 * b) (51 + 256 * k) = s2N a 51 + 256 * s2N b k := by
  have h2 := (s2_byte a ha (b % 4) (by omega)).1
  unfold s2N
  rw [and_dig ha (by omega), show (a + 256 * b) / 4 = (a / 4 + 64 * (b % 4)) + 256 * (b / 4) by omega, and_dig (by omega) (by omega), h2]
  omega
theorem s3_byte : ∀ a, a < 256 → s2N (s1N a 85) 51 / 16 ≤ 4 ∧ s2N (s1N a 85) 51 % 16 ≤ 4 ∧ s2N (s1N a 85) 51 < 128 := by decide +kernel
theorem and15 : ∀ a, a < 128 → ∀ e, e < 16 → (a + a / 16 + 16 * e) < 256 → a % 16 + a / 16 < 16 → ((a + a / 16 + 16 * e) &&& 15) = ((a + a / 16) &&& 15) := by decide +kernel
def pc8 (a : Nat) : Nat := a % 2 + a / 2 % 2 + a / 4 % 2 + a / 8 % 2 + a / 16 % 2 + a / 32 % 2 + a / 64 % 2 + a / 128 % 2
theorem pc8_byte : ∀ a, a < 256 → s3N (s2N (s1N a 85) 51) 15 = pc8 a ∧ pc8 a ≤ 8 := by decide +kernel
theorem s3_dig {a b k : Nat} (ha : a < 256) (hb : b % 16 ≤ 4) : s3N (s2N (s1N a 85) 51 + 256 * b) (15 + 256 * k) = pc8 a + 256 * s3N b k := by
  obtain ⟨h1, h2, h3⟩ := s3_byte a ha
  have h4 := (pc8_byte a ha).1
  generalize hA : s2N (s1N a 85) 51 = A at *
  unfold s3N at h4 ⊢
  rw [show A + 256 * b + (A + 256 * b) / 16 = (A + A / 16 + 16 * (b % 16)) + 256 * (b + b / 16) by omega, and_dig (by omega) (by omega), and15 A h3 (b % 16) (by omega) (by omega) (by omega), h4]

theorem swar {b0 b1 b2 b3 b4 : Nat} (h0 : b0 < 256) (h1 : b1 < 256) (h2 : b2 < 256) (h3 : b3 < 256) (h4 : b4 < 256) : s3N (s2N (s1N (b0 + 256 * (b1 + 256 * (b2 + 256 * (b3 + 256 * b4)))) 6148914691236517205) 3689348814741910323) 1085102592571150095 = pc8 b0 + 256 * (pc8 b1 + 256 * (pc8 b2 + 256 * (pc8 b3 + 256 * pc8 b4))) := by
  rw [show (6148914691236517205 : Nat) = 85 + 256 * (85 + 256 * (85 + 256 * (85 + 256 * (85 + 256 * 5592405)))) by decide,
    show (3689348814741910323 : Nat) = 51 + 256 * (51 + 256 * (51 + 256 * (51 + 256 * (51 + 256 * 3355443)))) by decide,
    show (1085102592571150095 : Nat) = 15 + 256 * (15 + 256 * (15 + 256 * (15 + 256 * (15 + 256 * 986895)))) by decide]
  have z1 : s1N 0 5592405 = 0 := by decide
  have z2 : s2N 0 3355443 = 0 := by decide
  have z3 : s3N 0 986895 = 0 := by decide
  have a4 := s1_dig (a := b4) (b := 0) (k := 5592405) h4 (by decide)
  have a3 := s1_dig (a := b3) (b := b4 + 256 * 0) (k := 85 + 256 * 5592405) h3 a4.2
  have a2 := s1_dig (a := b2) (b := b3 + 256 * (b4 + 256 * 0)) (k := 85 + 256 * (85 + 256 * 5592405)) h2 a3.2
  have a1 := s1_dig (a := b1) (b := b2 + 256 * (b3 + 256 * (b4 + 256 * 0))) (k := 85 + 256 * (85 + 256 * (85 + 256 * 5592405))) h1 a2.2
  have a0 := s1_dig (a := b0) (b := b1 + 256 * (b2 + 256 * (b3 + 256 * (b4 + 256 * 0)))) (k := 85 + 256 * (85 + 256 * (85 + 256 * (85 + 256 * 5592405)))) h0 a1.2
  rw [show b0 + 256 * (b1 + 256 * (b2 + 256 * (b3 + 256 * b4))) = b0 + 256 * (b1 + 256 * (b2 + 256 * (b3 + 256 * (b4 + 256 * 0)))) by omega]
  rw [a0.1, a1.1, a2.1, a3.1, a4.1, z1]
  rw [s2_dig (s1_byte b0 h0).2.2, s2_dig (s1_byte b1 h1).2.2, s2_dig (s1_byte b2 h2).2.2, s2_dig (s1_byte b3 h3).2.2, s2_dig (s1_byte b4 h4).2.2, z2]
  have c1 := (s3_byte b1 h1).2.1
  have c2 := (s3_byte b2 h2).2.1
  have c3 := (s3_byte b3 h3).2.1
  have c4 := (s3_byte b4 h4).2.1
  rw [s3_dig h0 (by omega), s3_dig h1 (by omega), s3_dig h2 (by omega), s3_dig h3 (by omega), s3_dig h4 (by omega), z3, Nat.mul_zero, Nat.add_zero]
def pc40 (m : Nat) : Nat := pc8 (m % 256) + pc8 (m / 256 % 256) + pc8 (m / 65536 % 256) + pc8 (m / 16777216 % 256) + pc8 (m / 4294967296 % 256)
theorem c_lbits {m : Nat} (hm : m < 2 ^ 40) (μ : Mem) : fJ13_bitCount_95d88 (lN m) μ = some (nI (pc40 m)) := by
  have k0 := (pc8_byte (m % 256) (by omega)).2
  have k1 := (pc8_byte (m / 256 % 256) (by omega)).2
  have k2 := (pc8_byte (m / 65536 % 256) (by omega)).2
  have k3 := (pc8_byte (m / 16777216 % 256) (by omega)).2
  have k4 := (pc8_byte (m / 4294967296 % 256) (by omega)).2
  have sw := swar (b0 := m % 256) (b1 := m / 256 % 256) (b2 := m / 65536 % 256) (b3 := m / 16777216 % 256) (b4 := m / 4294967296 % 256) (by omega) (by omega) (by omega) (by omega) (by omega)
  rw [show m % 256 + 256 * (m / 256 % 256 + 256 * (m / 65536 % 256 + 256 * (m / 16777216 % 256 + 256 * (m / 4294967296 % 256)))) = m by omega] at sw
  have l1 : s1N m 6148914691236517205 ≤ m := Nat.sub_le _ _
  have m1 : lN m - ((lush (lN m) 1) &&& 6148914691236517205) = lN (s1N m 6148914691236517205) := by
    rw [lush_lN (by omega) 1 1 (by decide), show (6148914691236517205 : Int64) = lN 6148914691236517205 by decide, lN_and, lN_sub]
    · rfl
    · exact Nat.le_trans Nat.and_le_left (by omega)
  generalize hX1 : s1N m 6148914691236517205 = X1 at *
  have m2 : ((lN X1 &&& 3689348814741910323) + ((lush (lN X1) 2) &&& 3689348814741910323)) = lN (s2N X1 3689348814741910323) := by
    rw [lush_lN (by omega) 2 2 (by decide), show (3689348814741910323 : Int64) = lN 3689348814741910323 by decide, lN_and, lN_and, lN_add]
    rfl
  have l2 : s2N X1 3689348814741910323 ≤ X1 + X1 / 4 := Nat.add_le_add Nat.and_le_left Nat.and_le_left
  generalize hX2 : s2N X1 3689348814741910323 = X2 at *
  have m3 : ((lN X2 + (lush (lN X2) 4)) &&& 1085102592571150095) = lN (s3N X2 1085102592571150095) := by
    rw [lush_lN (by omega) 4 4 (by decide), show (1085102592571150095 : Int64) = lN 1085102592571150095 by decide, lN_add, lN_and]
    rfl
  have m4 : ∀ P k2 (y : Int32), P < 2 ^ 64 → (y.toInt64.toUInt64 &&& Int64.toUInt64 63).toNat % 64 = k2 → lN P + lush (lN P) y = lN (P + P / 2 ^ k2) := by
    intro P k2 y hP hy
    rw [lush_lN hP k2 y hy, lN_add]
  unfold fJ13_bitCount_95d88
  simp only [nm_ap]
  rw [m1, m2, m3, sw]
  unfold pc40
  generalize pc8 (m % 256) = p0 at *
  generalize pc8 (m / 256 % 256) = p1 at *
  generalize pc8 (m / 65536 % 256) = p2 at *
  generalize pc8 (m / 16777216 % 256) = p3 at *
  generalize pc8 (m / 4294967296 % 256) = p4 at *
  rw [m4 _ 8 8 (by omega) (by decide), m4 _ 16 16 (by omega) (by decide), m4 _ 32 32 (by omega) (by decide), lN_i32, show (127 : Int32) = nI (2 ^ 7 - 1) by decide, nI_and, Nat.and_two_pow_sub_one_eq_mod]
  have q1 : (p0 + 256 * (p1 + 256 * (p2 + 256 * (p3 + 256 * p4)))) / 2 ^ 8 = p1 + 256 * (p2 + 256 * (p3 + 256 * p4)) := by omega
  rw [q1]
  have q2 : (p0 + 256 * (p1 + 256 * (p2 + 256 * (p3 + 256 * p4))) + (p1 + 256 * (p2 + 256 * (p3 + 256 * p4)))) / 2 ^ 16 = (p2 + p3) + 256 * ((p3 + p4) + 256 * p4) := by omega
  rw [q2]
  have q3 : (p0 + 256 * (p1 + 256 * (p2 + 256 * (p3 + 256 * p4))) + (p1 + 256 * (p2 + 256 * (p3 + 256 * p4))) + ((p2 + p3) + 256 * ((p3 + p4) + 256 * p4))) / 2 ^ 32 = p4 := by omega
  rw [q3]
  congr 2
  omega
