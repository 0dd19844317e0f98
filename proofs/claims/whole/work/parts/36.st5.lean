/-! ===== how many bits; whose ===== -/
def pcN (m : Nat) : Nat := m % 2 + m / 2 % 2 + m / 4 % 2 + m / 8 % 2 + m / 16 % 2 + m / 32 % 2 + m / 64 % 2
def bitcX (a : Int32) : Int32 :=
  let x1 := a - ((ush a 1) &&& 1431655765)
  let x2 := (x1 &&& 858993459) + ((ush x1 2) &&& 858993459)
  let x3 := (x2 + (ush x2 4)) &&& 252645135
  let x4 := x3 + (ush x3 8)
  let x5 := x4 + (ush x4 16)
  x5 &&& 63
theorem bitc_eq (a : Int32) (μ : Mem) : fJ6_bitCount_0f7a4 a μ = some (bitcX a) := rfl
theorem bitc_all : ∀ m, m < 128 → bitcX (nI m) = nI (pcN m) := by decide +kernel
theorem c_bits {m : Nat} (h : m < 128) (μ : Mem) : fJ6_bitCount_0f7a4 (nI m) μ = some (nI (pcN m)) := by rw [bitc_eq, bitc_all m h]
def smn (v : Nat → Nat) : Nat → Nat
  | 0 => 0
  | n + 1 => smn v n + v n
theorem smv_nI {v : Nat → Int32} {w : Nat → Nat} : ∀ {n : Nat}, (∀ i, i < n → v i = nI (w i)) → smv v n = nI (smn w n)
  | 0, _ => rfl
  | n + 1, h => by rw [smv, smv_nI (fun i hi => h i (by omega)), h n (by omega), nI_add, smn]
theorem bits_all : ∀ m, m < 128 → smn (fun i => m / 2 ^ i % 2) 24 = pcN m := by decide +kernel
theorem r_bits {m : Nat} (h : m < 128) (μ : Mem) : fX11_bits (nI m) μ = some (nI (pcN m)) := by
  unfold fX11_bits
  rw [lsum (L := fun n a i => fX11_bits_4 (nI m) μ (fun y => some y) n a i) (K := fun y => some y) 24 (fun i => (nI m >>> (nI i &&& 31)) &&& 1) (by omega)
    (by
      intro n i a hi
      show fX11_bits_4 (nI m) μ (fun y => some y) (n + 1) a (nI i) = _
      rw [fX11_bits_4, if_pos (c_lt L_24 hi (by omega)), nm_ap, nI_1])
    (by
      intro n a
      show fX11_bits_4 (nI m) μ (fun y => some y) (n + 1) a (nI 24) = _
      rw [fX11_bits_4, if_neg (c_nlt L_24 (by omega) (by omega))])]
  rw [smv_nI (w := fun i => m / 2 ^ i % 2) (fun i hi => nI_bit (by omega) (by omega)), bits_all m h]
def agr (T : Txt) (x : Nat → Nat) (y : Nat → Bool) (g : Nat) : Nat → Bool
  | 0 => true
  | k + 1 => agr T x y g k && (isTh T g (x k) == y k)
theorem agr_iff {T : Txt} {x : Nat → Nat} {y : Nat → Bool} {g : Nat} : ∀ {k : Nat}, agr T x y g k = true ↔ ∀ i, i < k → isTh T g (x i) = y i
  | 0 => by simp [agr]
  | k + 1 => by
    rw [agr, Bool.and_eq_true, agr_iff (k := k), beq_iff_eq]
    constructor
    · intro h i hi
      by_cases c : i = k
      · subst c; exact h.2
      · exact h.1 i (by omega)
    · intro h
      exact ⟨fun i hi => h i (by omega), h k (by omega)⟩
theorem b2i_inj {a b : Bool} : b2i a = b2i b ↔ a = b := by cases a <;> cases b <;> decide
theorem c_agrees {A : Abs} {μ : Mem} (hA : okA A) (h : CInv A μ) {g k : Nat} (hg : g < A.T.nG) (hk : k ≤ A.cl) : fX0_agrees 199 (nI g) (nI k) μ = some (agr A.T A.ch A.ct g k) := by
  have cl := hA.cl
  unfold fX0_agrees
  have turn : ∀ n i, i < k → fX0_agrees_3 199 (nI g) (nI k) μ (fun _ => some true) (n + 1) (nI i) = if b2i (isTh A.T g (A.ch i)) = b2i (A.ct i) then fX0_agrees_3 199 (nI g) (nI k) μ (fun _ => some true) n (nI (i + 1)) else some false := by
    intro n i hi
    have hb : inb (nI i) 20 := inbN (by omega) (by omega)
    have hcl : (nI i).toNatClampNeg = i := nI_clamp (by omega)
    have hch := hA.ch i (by omega)
    rw [fX0_agrees_3, if_pos (nI_lt hi (by omega)), if_pos (c_lt L_20 (by omega) (by omega))]
    simp only [if_pos hb, hcl]
    rw [h.ch i (by omega), c_isThere h.T hA.T hg (by omega), bind_s, h.ct i (by omega), nI_1]
  rw [lfind (L := fun n i => fX0_agrees_3 199 (nI g) (nI k) μ (fun _ => some true) n i) (X := some true) k (fun i => !(isTh A.T g (A.ch i) == A.ct i)) (fun _ => some false) (by omega)
    (by
      intro n i hi hp
      show fX0_agrees_3 199 (nI g) (nI k) μ (fun _ => some true) (n + 1) (nI i) = _
      rw [turn n i hi, if_neg (fun q => by rw [b2i_inj] at q; simp [q] at hp)])
    (by
      intro n i hi hp
      show fX0_agrees_3 199 (nI g) (nI k) μ (fun _ => some true) (n + 1) (nI i) = _
      rw [turn n i hi, if_pos (by rw [b2i_inj]; simpa using hp)])
    (by
      intro n
      show fX0_agrees_3 199 (nI g) (nI k) μ (fun _ => some true) (n + 1) (nI k) = _
      rw [fX0_agrees_3, if_neg (nI_nlt (by omega) (by omega))])]
  by_cases c : agr A.T A.ch A.ct g k = true
  · rw [ffd_none (by intro i hi; simp [agr_iff.1 c i hi]), if_neg (by omega), c]
  · have c2 : agr A.T A.ch A.ct g k = false := by simpa using c
    rw [c2, if_pos]
    have le := ffd_le (fun i => !(isTh A.T g (A.ch i) == A.ct i)) k 0
    apply Classical.byContradiction
    intro q
    apply c
    rw [agr_iff]
    intro i hi
    have := ffd_no (fun i => !(isTh A.T g (A.ch i) == A.ct i)) k 0 i (by omega) (by omega)
    simpa using this
def whoB (A : Abs) (k : Nat) : Nat := bs (fun g => agr A.T A.ch A.ct g k) A.T.nG
theorem c_guestsLeft {A : Abs} {μ : Mem} (hA : okA A) (h : CInv A μ) {k : Nat} (hk : k ≤ A.cl) : fX0_guestsLeft 199 (nI k) μ = some (nI (whoB A k)) := by
  have g7 := hA.T.g7
  unfold fX0_guestsLeft
  refine lbits (L := fun n a i => fX0_guestsLeft_5 199 (nI k) μ (fun y3 => some y3) n a i) (K := fun y => some y) A.T.nG (fun g => agr A.T A.ch A.ct g k) (by omega) ?_ ?_ ?_
  · intro n i m hi hm hp
    rw [fX0_guestsLeft_5, h.T.nG, if_pos (nI_lt hi (by omega)), c_agrees hA h hi hk, bind_s, if_pos hp, nm_ap, nI_shl i (by omega), nI_or, nI_1]
  · intro n i m hi hm hp
    rw [fX0_guestsLeft_5, h.T.nG, if_pos (nI_lt hi (by omega)), c_agrees hA h hi hk, bind_s, if_neg (by rw [hp]; decide), nI_1]
  · intro n m hm
    rw [fX0_guestsLeft_5, h.T.nG, if_neg (nI_nlt (by omega) (by omega))]
theorem r_isThere {v : Nat} {T : Txt} {μ : Mem} (h : rX v T μ) {g k : Nat} (hg : g < T.nG) (hk : k < 2 ^ 31) : fX11_isThere (nI g) (nI k) μ = some (isTh T g k) := by
  unfold fX11_isThere
  rw [r_fromAt h hg, bind_s, r_tillAt h hg, bind_s, r_isTh h hg hk, bind_s]
theorem r_agr {A : Abs} {μ : Mem} (hA : okA A) (h : RInv A μ) {g k : Nat} (hg : g < A.T.nG) (hk : k ≤ A.cl) {w : Int32} {K : Int32 → Option Int32} : fX11_whoseBits_23 (nI k) w (nI g) μ K FU 1 0 = K (b2i (agr A.T A.ch A.ct g k)) := by
  have cl := hA.cl
  have hx := h.rX hA
  have h1 := lupF (L := fun n v (a : Int32) => fX11_whoseBits_23 (nI k) w (nI g) μ K n a v) (K := K) (a := (1 : Int32)) k (fun i a => a = b2i (agr A.T A.ch A.ct g i)) (fun i _ => b2i (agr A.T A.ch A.ct g (i + 1))) (by omega) rfl
    (by
      intro n i a hi ha
      have hb : inb (nI i) 20 := inbN (by omega) (by omega)
      have hcl : (nI i).toNatClampNeg = i := nI_clamp (by omega)
      have hch := hA.ch i (by omega)
      show fX11_whoseBits_23 (nI k) w (nI g) μ K (n + 1) a (nI i) = _
      rw [fX11_whoseBits_23, if_pos (nI_lt hi (by omega))]
      simp only [if_pos hb, hcl]
      rw [h.ch i (by omega), r_isThere hx hg (by omega), bind_s, h.ct i (by omega), nI_1, ha, agr]
      by_cases c : isTh A.T g (A.ch i) = A.ct i
      · rw [if_pos (b2i_inj.2 c), beq_iff_eq.2 c, Bool.and_true]
      · rw [if_neg (fun q => c (b2i_inj.1 q)), beq_eq_false_iff_ne.2 c, Bool.and_false]; rfl)
    (by intro i a hi ha; rfl)
    (by
      intro n a ha
      show fX11_whoseBits_23 (nI k) w (nI g) μ K (n + 1) a (nI k) = _
      rw [fX11_whoseBits_23, if_neg (nI_nlt (by omega) (by omega))])
  rw [h1.2] at h1
  exact h1.1
theorem r_whoseBits {A : Abs} {μ : Mem} (hA : okA A) (h : RInv A μ) {k : Nat} (hk : k ≤ A.cl) : fX11_whoseBits (nI k) μ = some (nI (whoB A k)) := by
  have g7 := hA.T.g7
  have v1 := hA.lv
  unfold fX11_whoseBits
  refine lbits (L := fun n a i => fX11_whoseBits_4 (nI k) μ (fun y3 => some y3) n a i) (K := fun y => some y) A.T.nG (fun g => agr A.T A.ch A.ct g k) (by omega) ?_ ?_ ?_
  · intro n i m hi hm hp
    rw [fX11_whoseBits_4, h.lv, if_pos (inbN (by omega) (by omega)), nI_clamp (by omega), h.T.nG, if_pos (nI_lt hi (by omega)), r_agr hA h hi hk, hp, if_neg (by decide), nm_ap, nI_shl i (by omega), nI_or, nI_1]
  · intro n i m hi hm hp
    rw [fX11_whoseBits_4, h.lv, if_pos (inbN (by omega) (by omega)), nI_clamp (by omega), h.T.nG, if_pos (nI_lt hi (by omega)), r_agr hA h hi hk, hp, if_pos (by decide), nI_1]
  · intro n m hm
    rw [fX11_whoseBits_4, h.lv, if_pos (inbN (by omega) (by omega)), nI_clamp (by omega), h.T.nG, if_neg (nI_nlt (by omega) (by omega))]
theorem whoB_lt {A : Abs} (hA : okA A) (k : Nat) : whoB A k < 128 := bs_lt7 _ hA.T.g7
theorem c_two (x : Int32) (μ : Mem) : fX10_isOneOfTwo x μ = some (decide (x = 0 ∨ x = 1)) := by
  unfold fX10_isOneOfTwo
  by_cases h0 : x = 0
  · simp [h0]
  · by_cases h1 : x = 1
    · simp [h1]
    · simp [h0, h1]
theorem r_two (x : Int32) (μ : Mem) : fX11_in x 0 1 μ = some (decide (x = 0 ∨ x = 1)) := by
  rw [in_eq]
  congr 1
  by_cases h1 : x < 0
  · have a : ¬ x = 0 := fun q => by rw [q] at h1; exact absurd h1 (by decide)
    have b : ¬ x = 1 := fun q => by rw [q] at h1; exact absurd h1 (by decide)
    simp [h1, a, b]
  · obtain ⟨n, hn, rfl⟩ := nI_of h1
    have e0 : nI n = 0 ↔ n = 0 := nI_eq (b := 0) hn (by omega)
    have e1 : nI n = 1 ↔ n = 1 := nI_eq (b := 1) hn (by omega)
    have e2 : (1 : Int32) < nI n ↔ 1 < n := nI_ltI (a := 1) (by omega) hn
    have key : (¬ nI n < 0 ∧ ¬ (1 : Int32) < nI n) ↔ (nI n = 0 ∨ nI n = 1) := by
      rw [e0, e1, e2]
      constructor
      · intro h
        have h2 := h.2
        omega
      · intro h
        exact ⟨h1, by omega⟩
    exact decide_eq_decide.2 key
theorem sp_whose : st_whose Inv := by
  intro μ a1 a2 ⟨A, hA, hc, hr⟩
  have cl := hA.cl
  unfold fX10_whose fX11_whose
  by_cases h1 : a1 < 0
  · refine ⟨-1, by rw [if_pos h1], ?_⟩
    rw [in_eq, bind_s, if_neg (by simp [h1])]
  obtain ⟨k, hk, rfl⟩ := nI_of h1
  by_cases h2 : A.cl < k
  · have h3 : nI A.cl < nI k := nI_lt h2 hk
    refine ⟨-1, by rw [if_neg h1, hc.cn, if_pos h3], ?_⟩
    rw [hr.cn, in_eq, bind_s, if_neg (by simp [h3])]
  have h3 : ¬ nI A.cl < nI k := nI_nlt (by omega) (by omega)
  have wl := whoB_lt hA k
  have f1 : ∀ X : Option Int32, (if nI k < 0 then some (-1) else if μ.1 196 0 < nI k then some (-1) else X) = X := by
    intro X; rw [if_neg h1, hc.cn, if_neg h3]
  rw [f1, hr.cn, in_eq, bind_s, if_pos (by simp [h1, h3]), c_two, r_two, bind_s, bind_s]
  by_cases t : a2 = 0 ∨ a2 = 1
  · rw [if_pos (by simpa using t), if_pos (by simpa using t), c_guestsLeft hA hc (by omega), r_whoseBits hA hr (by omega), bind_s, bind_s]
    by_cases z : a2 = 0
    · exact ⟨nI (pcN (whoB A k)), by rw [if_pos z, c_bits wl, bind_s], by rw [if_pos z, r_bits wl, bind_s]⟩
    · exact ⟨nI (whoB A k), by rw [if_neg z], by rw [if_neg z]⟩
  · exact ⟨-1, by rw [if_neg (by simpa using t)], by rw [if_neg (by simpa using t)]⟩
