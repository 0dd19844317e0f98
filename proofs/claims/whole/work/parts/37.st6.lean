/-! ===== look ===== -/
theorem ad0 (a : Int32) : a + 0 = a := Int32.add_zero a
def seV (T : Txt) (m h : Nat) : Nat → Int32 := fun g => b2i (m.testBit g && isTh T g h)
def seN (T : Txt) (m h : Nat) : Nat → Nat := fun g => if (m.testBit g && isTh T g h) = true then 1 else 0
theorem seV_N (T : Txt) (m h g : Nat) : seV T m h g = nI (seN T m h g) := by
  unfold seV seN
  cases (m.testBit g && isTh T g h) <;> rfl
theorem smn_le (v : Nat → Nat) (h : ∀ i, v i ≤ 1) : ∀ n, smn v n ≤ n
  | 0 => Nat.le_refl 0
  | n + 1 => by have := smn_le v h n; have := h n; rw [smn]; omega
theorem c_seenAt {A : Abs} {μ : Mem} (hA : okA A) (h : CInv A μ) {m k : Nat} (hm : m < 128) (hk : k < 24) : fX0_seenAt 199 (nI m) (nI k) μ = some (nI (smn (seN A.T m k) A.T.nG)) := by
  have g7 := hA.T.g7
  unfold fX0_seenAt
  rw [lsum (L := fun n a i => fX0_seenAt_5 199 (nI m) (nI k) μ (fun y => some y) n a i) (K := fun y => some y) A.T.nG (seV A.T m k) (by omega)
    (by
      intro n i a hi
      show fX0_seenAt_5 199 (nI m) (nI k) μ (fun y => some y) (n + 1) a (nI i) = _
      rw [fX0_seenAt_5, h.T.nG, if_pos (nI_lt hi (by omega)), nI_bit (by omega) (by omega)]
      unfold seV
      cases c : m.testBit i with
      | true =>
        rw [if_pos (bit_one.2 c), c_isThere h.T hA.T hi (by omega), bind_s]
        cases d : isTh A.T i k with
        | true => rw [if_pos rfl, nI_1]; rfl
        | false => rw [if_neg (by decide), nI_1]; show _ = fX0_seenAt_5 199 (nI m) (nI k) μ (fun y => some y) n (a + 0) (nI (i + 1)); rw [ad0]
      | false => rw [if_neg (fun q => by rw [bit_one.1 q] at c; cases c), nI_1]; show _ = fX0_seenAt_5 199 (nI m) (nI k) μ (fun y => some y) n (a + 0) (nI (i + 1)); rw [ad0])
    (by
      intro n a
      show fX0_seenAt_5 199 (nI m) (nI k) μ (fun y => some y) (n + 1) a (nI A.T.nG) = _
      rw [fX0_seenAt_5, h.T.nG, if_neg (nI_nlt (by omega) (by omega))])]
  rw [smv_nI (fun i _ => seV_N A.T m k i)]
theorem r_seen {A : Abs} {μ : Mem} (hA : okA A) (h : RInv A μ) {m k : Nat} (hm : m < 128) (hk : k < 24) {b f : Int32} {K : Int32 → Option Int32} : fX11_look_46 (nI m) b f (nI k) μ K FU 0 0 = K (nI (smn (seN A.T m k) A.T.nG)) := by
  have g7 := hA.T.g7
  have v1 := hA.lv
  have hx := h.rX hA
  rw [lsum (L := fun n a i => fX11_look_46 (nI m) b f (nI k) μ K n a i) (K := K) A.T.nG (seV A.T m k) (by omega)
    (by
      intro n i a hi
      show fX11_look_46 (nI m) b f (nI k) μ K (n + 1) a (nI i) = _
      rw [fX11_look_46, h.lv, if_pos (inbN (by omega) (by omega)), nI_clamp (by omega), h.T.nG, if_pos (nI_lt hi (by omega)), nI_bit (by omega) (by omega)]
      unfold seV
      cases c : m.testBit i with
      | true =>
        rw [if_pos (bit_one.2 c), r_isThere hx hi (by omega), bind_s]
        cases d : isTh A.T i k with
        | true => rw [if_pos rfl, nI_1]; rfl
        | false => rw [if_neg (by decide), nI_1]; show _ = fX11_look_46 (nI m) b f (nI k) μ K n (a + 0) (nI (i + 1)); rw [ad0]
      | false => rw [if_neg (fun q => by rw [bit_one.1 q] at c; cases c), nI_1]; show _ = fX11_look_46 (nI m) b f (nI k) μ K n (a + 0) (nI (i + 1)); rw [ad0])
    (by
      intro n a
      show fX11_look_46 (nI m) b f (nI k) μ K (n + 1) a (nI A.T.nG) = _
      rw [fX11_look_46, h.lv, if_pos (inbN (by omega) (by omega)), nI_clamp (by omega), h.T.nG, if_neg (nI_nlt (by omega) (by omega))])]
  rw [smv_nI (fun i _ => seV_N A.T m k i)]
def loW (T : Txt) (m h : Nat) : Int32 := mxI (nI (smn (seN T m h) T.nG)) (nI (pcN m) - nI (smn (seN T m h) T.nG))
def loS (T : Txt) (m : Nat) (i : Nat) (a : Int32 × Int32) : Int32 × Int32 := if loW T m i < a.2 then (nI i, loW T m i) else a
theorem c_look {A : Abs} {μ : Mem} (hA : okA A) (h : CInv A μ) {m : Nat} (hm : m < 128) : fX0_hourToLook 199 (nI m) μ = some (itr (loS A.T m) 24 0 (0, 8)).1 := by
  unfold fX0_hourToLook
  have h1 := lupF (L := fun n v (a : Int32 × Int32) => fX0_hourToLook_9 199 (nI m) μ (fun y => some y) n a.1 a.2 v) (K := fun a => some a.1) (a := ((0 : Int32), (8 : Int32))) 24 (fun _ _ => True) (loS A.T m) (by omega) trivial
    (by
      intro n i a hi _
      show fX0_hourToLook_9 199 (nI m) μ (fun y => some y) (n + 1) a.1 a.2 (nI i) = fX0_hourToLook_9 199 (nI m) μ (fun y => some y) n (loS A.T m i a).1 (loS A.T m i a).2 (nI (i + 1))
      rw [fX0_hourToLook_9, if_pos (c_lt L_24 hi (by omega)), c_seenAt hA h hm hi, bind_s, c_bits hm, bind_s, nm_ap, nI_1]
      unfold loS
      by_cases c : loW A.T m i < a.2
      · rw [if_pos c, if_pos (show mxI _ _ < a.2 from c)]; rfl
      · rw [if_neg c, if_neg (show ¬ mxI _ _ < a.2 from c)])
    (by intro i a _ _; trivial)
    (by
      intro n a _
      show fX0_hourToLook_9 199 (nI m) μ (fun y => some y) (n + 1) a.1 a.2 (nI 24) = _
      rw [fX0_hourToLook_9, if_neg (c_nlt L_24 (by omega) (by omega))])
  exact h1.1
theorem mxI_alt (x y : Int32) : mxI x y = if y < x then x else y := by
  unfold mxI
  by_cases h1 : x < y
  · rw [if_pos h1, if_neg (fun q => by rw [Int32.lt_iff_toInt_lt] at h1 q; omega)]
  · by_cases h2 : y < x
    · rw [if_neg h1, if_pos h2]
    · rw [if_neg h1, if_neg h2]
      apply Int32.toInt_inj.1
      rw [Int32.lt_iff_toInt_lt] at h1 h2
      omega
theorem r_look_turn {A : Abs} {μ : Mem} (hA : okA A) (h : RInv A μ) {m i n : Nat} (hm : m < 128) (hm0 : 0 < m) (hi : i < 24) (b f : Int32) : fX11_look_29 (nI m) μ (fun y => some y) (n + 1) b f (nI i) = if b < 0 ∨ loW A.T m i < f then fX11_look_29 (nI m) μ (fun y => some y) n (nI i) (loW A.T m i) (nI (i + 1)) else fX11_look_29 (nI m) μ (fun y => some y) n b f (nI (i + 1)) := by
  rw [fX11_look_29, if_pos (c_lt L_24 hi (by omega)), if_neg (nI_ne0 hm0 (by omega)), r_seen hA h hm hi, r_bits hm, bind_s, bind_s, nI_1]
  have e := mxI_alt (nI (smn (seN A.T m i) A.T.nG)) (nI (pcN m) - nI (smn (seN A.T m i) A.T.nG))
  unfold loW
  rw [e]
  by_cases c : nI (pcN m) - nI (smn (seN A.T m i) A.T.nG) < nI (smn (seN A.T m i) A.T.nG)
  · rw [if_pos c, if_pos c]
    by_cases d : b < 0
    · rw [if_pos d, if_pos (Or.inl d)]
    · rw [if_neg d]
      by_cases g : nI (smn (seN A.T m i) A.T.nG) < f
      · rw [if_pos g, if_pos (Or.inr g)]
      · rw [if_neg g, if_neg (fun q => q.elim d g)]
  · rw [if_neg c, if_neg c]
    by_cases d : b < 0
    · rw [if_pos d, if_pos (Or.inl d)]
    · rw [if_neg d]
      by_cases g : nI (pcN m) - nI (smn (seN A.T m i) A.T.nG) < f
      · rw [if_pos g, if_pos (Or.inr g)]
      · rw [if_neg g, if_neg (fun q => q.elim d g)]
theorem pcN_le : ∀ m, m < 128 → pcN m ≤ 7 := by decide +kernel
theorem loW_lt8 {A : Abs} (hA : okA A) {m : Nat} (hm : m < 128) (i : Nat) : loW A.T m i < 8 := by
  have g7 := hA.T.g7
  have h1 := pcN_le m hm
  have h2 := smn_le (seN A.T m i) (by intro g; unfold seN; split <;> omega) A.T.nG
  unfold loW mxI
  rw [L_8]
  split
  · rw [Int32.lt_iff_toInt_lt, pk_sub_toInt (by omega) (by omega), nI_toInt (by omega)]; omega
  · exact nI_lt (by omega) (by omega)
theorem r_look {A : Abs} {μ : Mem} (hA : okA A) (h : RInv A μ) {m : Nat} (hm : m < 128) (hm0 : 0 < m) : fX11_look_29 (nI m) μ (fun y => some y) FU (-2) 0 0 = some (itr (loS A.T m) 24 0 (0, 8)).1 := by
  have h1 := lup (fun n v (a : Int32 × Int32) => fX11_look_29 (nI m) μ (fun y => some y) n a.1 a.2 v) 24 (fun _ a => ¬ a.1 < 0) (loS A.T m) (fun a => some a.1)
    (by
      intro n i a hi ha
      show fX11_look_29 (nI m) μ (fun y => some y) (n + 1) a.1 a.2 (nI i) = fX11_look_29 (nI m) μ (fun y => some y) n (loS A.T m i a).1 (loS A.T m i a).2 (nI (i + 1))
      rw [r_look_turn hA h hm hm0 hi]
      unfold loS
      by_cases c : loW A.T m i < a.2
      · rw [if_pos c, if_pos (Or.inr c)]
      · rw [if_neg c, if_neg (fun q => q.elim ha c)])
    (by
      intro i a hi ha
      unfold loS
      split
      · exact nI_pos (by omega)
      · exact ha)
    (by
      intro n a _
      show fX11_look_29 (nI m) μ (fun y => some y) (n + 1) a.1 a.2 (nI 24) = _
      rw [fX11_look_29, if_neg (c_nlt L_24 (by omega) (by omega))])
  have e0 : fX11_look_29 (nI m) μ (fun y => some y) FU (-2) 0 0 = fX11_look_29 (nI m) μ (fun y => some y) 4095 (nI 0) (loW A.T m 0) (nI 1) := by
    have := r_look_turn (n := 4095) hA h hm hm0 (show 0 < 24 by omega) (-2) 0
    rw [if_pos (Or.inl (by decide))] at this
    exact this
  rw [e0]
  have h2 := (h1 23 1 4071 (nI 0, loW A.T m 0) (by omega) (show ¬ nI 0 < 0 by decide)).1
  have e3 : itr (loS A.T m) 24 0 (0, 8) = itr (loS A.T m) 23 1 (nI 0, loW A.T m 0) := by
    show itr (loS A.T m) 23 1 (loS A.T m 0 (0, 8)) = _
    unfold loS
    rw [if_pos (loW_lt8 hA hm 0)]
  rw [e3]
  exact h2
theorem sp_look : st_look Inv := by
  intro μ a1 ⟨A, hA, hc, hr⟩
  have cl := hA.cl
  unfold fX10_look fX11_look
  by_cases h1 : a1 < 0
  · refine ⟨-1, by rw [if_pos h1], ?_⟩
    rw [in_eq, bind_s, if_neg (by simp [h1])]
  obtain ⟨k, hk, rfl⟩ := nI_of h1
  by_cases h2 : A.cl < k
  · have h3 : nI A.cl < nI k := nI_lt h2 hk
    refine ⟨-1, by rw [if_neg h1, hc.cn, if_pos h3], ?_⟩
    rw [hr.cn, in_eq, bind_s, if_neg (by simp [h3])]
  have h3 : ¬ nI A.cl < nI k := nI_nlt (by omega) (by omega)
  have wl := whoB_lt hA k
  rw [if_neg h1, hc.cn, if_neg h3, hr.cn, in_eq, bind_s, if_pos (by simp [h1, h3]), c_guestsLeft hA hc (by omega), r_whoseBits hA hr (by omega), bind_s, bind_s]
  by_cases z : whoB A k = 0
  · refine ⟨-2, by rw [z, if_pos nI_0], ?_⟩
    rw [z, show FU = 4095 + 1 from rfl, fX11_look_29, if_pos (by decide), if_pos nI_0]
  · exact ⟨_, by rw [if_neg (nI_ne0 (by omega) (by omega)), c_look hA hc wl, bind_s], r_look hA hr wl (by omega)⟩
