/-! ===== what a row of the reference tells, what the component's state tells ===== -/
theorem qpm {A : Abs} {μ : Mem} (hA : okA A) (hc : CInv A μ) (hr : RInv A μ) {R : Type} {x : Option R} {G : Option (R × Mem)} {W : CellL} (v : R) (hF : x = some v) (hG : ∃ m, G = some (v, m)) (fr : FrO W μ Prod.snd G) (d1 : dj cPL W = true) (d2 : dj rPL W = true) :
    ∃ r μ2, x = some r ∧ G = some (r, μ2) ∧ Inv μ2 := by
  obtain ⟨m, hm⟩ := hG
  have f := fr _ hm
  exact ⟨v, m, hF, hm, A, hA, hc.ag (agC f d1), hr.ag (agR f d2)⟩
theorem qmm {A : Abs} {μ : Mem} (hA : okA A) (hc : CInv A μ) (hr : RInv A μ) {R : Type} {F G : Mem → Option (R × Mem)} {W1 W2 : CellL} (v : R) (hF : ∃ m, F μ = some (v, m)) (hG : ∀ μ', RInv A μ' → ∃ m, G μ' = some (v, m))
    (f1 : FrO W1 μ Prod.snd (F μ)) (f2 : ∀ μ', FrO W2 μ' Prod.snd (G μ')) (d1 : dj cPL W1 = true) (d2 : dj rPL W1 = true) (d3 : dj cPL W2 = true) (d4 : dj rPL W2 = true) :
    ∃ r μ1 μ2, F μ = some (r, μ1) ∧ G μ1 = some (r, μ2) ∧ Inv μ2 := by
  obtain ⟨m1, h1⟩ := hF
  have g1 := f1 _ h1
  have r1 := hr.ag (agR g1 d2)
  obtain ⟨m2, h2⟩ := hG m1 r1
  have g2 := f2 m1 _ h2
  exact ⟨v, m1, m2, h1, h2, A, hA, (hc.ag (agC g1 d1)).ag (agC g2 d3), r1.ag (agR g2 d4)⟩
theorem rX.sm {v : Nat} {T : Txt} {μ μ' : Mem} (h : rX v T μ) (h1 : μ'.1 243 18 = μ.1 243 18) (h2 : Sm 253 272 μ μ') : rX v T μ' := ⟨h1.trans h.1, h.2.1, h.2.2.1, h.2.2.2.sm h2⟩
theorem r_copies {A : Abs} {μ : Mem} (hA : okA A) (hr : RInv A μ) : ∃ m, fX11_copies μ = some m ∧ rS 277 0 A.S m ∧ RInv A m ∧ m.1 243 52 = nI A.T.se ∧ m.1 243 53 = 0 := by
  have lv := hA.lv
  have q : fX11_copies μ = some (wI (wI (cp μ 277 0 276 0 31) 243 52 (nI A.T.se)) 243 53 0) := by
    unfold fX11_copies
    have e1 : (cp μ 277 0 276 0 31).1 243 18 = nI A.lv := by rw [cp_i, if_neg (by omega)]; exact hr.lv
    have e2 : (cp μ 277 0 276 0 31).1 263 A.lv = nI A.T.se := by rw [cp_i, if_neg (by omega)]; exact hr.T.se
    rw [copies_loop, e1, if_pos (inbN (by omega) (by omega)), nI_clamp (by omega), e2, nm_ap, nm_ap]
  refine ⟨_, q, ?_, hr.ag (agR (frX11_copies μ _ q) (by decide)), ?_, ?_⟩
  · exact (rS.cp_new (a := 277) (fa := 0) hr.S).sm (Sm.two (Sm.wI (by omega)) (Sm.wI (by omega)))
  · rw [wI_i, if_neg (by omega), wI_i, if_pos ⟨rfl, rfl⟩]
  · rw [wI_i, if_pos ⟨rfl, rfl⟩]
theorem b2i_eq0 {b : Bool} : b2i b = 0 ↔ b = false := by cases b <;> decide
theorem b2i_eq1 {b : Bool} : b2i b = 1 ↔ b = true := by cases b <;> decide
def fits (T : Txt) (S : St) (g s : Nat) : Bool := !S.sd s && decide (T.hr g + T.hs g ≤ T.lo s)
theorem r_doesFit {v : Nat} {T : Txt} {S : St} {μ : Mem} (h : rX v T μ) (hS : rS 277 0 S μ) {g s : Nat} (hg : g < T.nG) (hs : s < T.nS) : fX11_doesFit (nI g) (nI s) μ = some (fits T S g s) := by
  have s4 := h.2.2.1.s4
  have v1 := h.2.1
  have gg := h.2.2.1.gu g hg
  have ss := h.2.2.1.su s hs
  have e : μ.1 277 (25 + s) = b2i (S.sd s) := by have := hS.sd s (by omega); rwa [Nat.zero_add] at this
  unfold fX11_doesFit fits
  rw [L_25, nI_add, if_pos (inbN (by omega) (by omega)), nI_clamp (by omega), e]
  cases hd : S.sd s with
  | true => rw [if_neg (by decide)]; rfl
  | false =>
    rw [if_pos (by decide), r_tillAt h hg, bind_s, h.1, ix4, if_pos (inbN (by omega) (by omega)), nI_clamp (by omega), h.2.2.2.lo s hs]
    by_cases c : T.lo s < T.hr g + T.hs g
    · rw [if_pos ((nI_ltI (by omega) (by omega)).2 c)]; simp; omega
    · rw [if_neg (fun q => c ((nI_ltI (by omega) (by omega)).1 q))]; simp; omega
theorem whI_eq {n s : Nat} (hs : s < 9) (hn : n < 9 ∨ n = 9) : whI n = nI s ↔ n = s := by
  unfold whI
  by_cases h : n < 9
  · rw [if_pos h, nI_eq (by omega) (by omega)]
  · rw [if_neg h]
    constructor
    · intro q
      have := nI_pos (n := s) (by omega)
      rw [← q] at this
      exact absurd (by decide) this
    · intro q; omega
theorem whI_neg {n : Nat} (hn : n < 9 ∨ n = 9) : whI n < 0 ↔ n = 9 := by
  unfold whI
  by_cases h : n < 9
  · rw [if_pos h]
    constructor
    · intro q; exact absurd q (nI_pos (by omega))
    · intro q; omega
  · rw [if_neg h]
    constructor
    · intro _; omega
    · intro _; decide
theorem whI_m2 {n : Nat} (hn : n < 9 ∨ n = 9) : whI n = -2 ↔ n = 9 := by
  unfold whI
  by_cases h : n < 9
  · rw [if_pos h]
    constructor
    · intro q; exact absurd (by rw [q]; decide) (nI_pos (n := n) (by omega))
    · intro q; omega
  · rw [if_neg h]
    constructor
    · intro _; omega
    · intro _; rfl
theorem okS.w9 {T : Txt} {S : St} (h : okS T S) (hT : okT T) (g : Nat) : S.wh g < 4 ∨ S.wh g = 9 := by
  have := hT.s4
  rcases h.wh g with e | e
  · exact Or.inr e
  · exact Or.inl (by omega)
theorem inB_nG {T : Txt} {S : St} (h : okS T S) (hT : okT T) {s : Nat} (hs : s < 9) : bs (fun g => S.wh g == s) T.nG = inB S s := by
  unfold inB
  have g7 := hT.g7
  apply eq_bits (n := 7)
  · exact Nat.lt_of_lt_of_le (bs_lt _ _) (Nat.pow_le_pow_right (by decide) g7)
  · exact bs_lt _ _
  · intro g hg
    rw [bs_bit, bs_bit]
    by_cases c : g < T.nG
    · simp [c, hg]
    · have : S.wh g = 9 := by
        rcases h.wh g with e | e
        · exact e
        · omega
      have : (S.wh g == s) = false := by simp; omega
      simp [c, this]
theorem r_guestBits {v : Nat} {T : Txt} {S : St} {μ : Mem} (h : rX v T μ) (hS : rS 277 0 S μ) (ok : okS T S) {s : Nat} (hs : s < 9) : fX11_guestBits (nI s) μ = some (nI (inB S s)) := by
  have g7 := h.2.2.1.g7
  have v1 := h.2.1
  have e : ∀ g, g < 7 → μ.1 277 g = whI (S.wh g) := by intro g hg; have := hS.wh g hg; rwa [Nat.zero_add] at this
  have w9 : ∀ g, S.wh g < 9 ∨ S.wh g = 9 := fun g => by have := ok.w9 h.2.2.1 g; omega
  rw [← inB_nG ok h.2.2.1 hs]
  unfold fX11_guestBits
  refine lbits (L := fun n a i => fX11_guestBits_4 (nI s) μ (fun y3 => some y3) n a i) (K := fun y => some y) T.nG (fun g => S.wh g == s) (by omega) ?_ ?_ ?_
  · intro n i m hi hm hp
    rw [fX11_guestBits_4, h.1, if_pos (inbN (by omega) (by omega)), nI_clamp (by omega), h.2.2.2.nG, if_pos (nI_lt hi (by omega)), if_pos (inbN (by omega) (by omega)), nI_clamp (by omega), e i (by omega), if_pos ((whI_eq hs (w9 i)).2 (by simpa using hp)), nm_ap, nI_shl i (by omega), nI_or, nI_1]
  · intro n i m hi hm hp
    rw [fX11_guestBits_4, h.1, if_pos (inbN (by omega) (by omega)), nI_clamp (by omega), h.2.2.2.nG, if_pos (nI_lt hi (by omega)), if_pos (inbN (by omega) (by omega)), nI_clamp (by omega), e i (by omega), if_neg (fun q => by have := (whI_eq hs (w9 i)).1 q; simp [this] at hp), nI_1]
  · intro n m hm
    rw [fX11_guestBits_4, h.1, if_pos (inbN (by omega) (by omega)), nI_clamp (by omega), h.2.2.2.nG, if_neg (nI_nlt (by omega) (by omega))]
def mayIn (T : Txt) (S : St) (g s : Nat) : Bool := !S.dd g && (fits T S g s && decide (inB S s &&& clB T g = 0))
theorem inB_lt (S : St) (s : Nat) : inB S s < 128 := bs_lt _ 7
theorem clB_lt {T : Txt} (hT : okT T) (g : Nat) : clB T g < 128 := bs_lt7 _ hT.g7
theorem and_lt {a b : Nat} (h : a < 128) : a &&& b < 128 := Nat.lt_of_le_of_lt Nat.and_le_left h
theorem r_mayGoIn {v : Nat} {T : Txt} {S : St} {μ : Mem} (h : rX v T μ) (hS : rS 277 0 S μ) (ok : okS T S) {g s : Nat} (hg : g < T.nG) (hs : s < T.nS) : fX11_mayGoIn (nI g) (nI s) μ = some (mayIn T S g s) := by
  have g7 := h.2.2.1.g7
  have s4 := h.2.2.1.s4
  have e : μ.1 277 (14 + g) = b2i (S.dd g) := by have := hS.dd g (by omega); rwa [Nat.zero_add] at this
  unfold fX11_mayGoIn mayIn
  rw [L_14, nI_add, if_pos (inbN (by omega) (by omega)), nI_clamp (by omega), e]
  cases hd : S.dd g with
  | true => rw [if_neg (by decide)]; rfl
  | false =>
    rw [if_pos (by decide), r_doesFit h hS hg hs, bind_s]
    cases hf : fits T S g s with
    | false => rw [if_neg (by decide)]; rfl
    | true =>
      rw [if_pos rfl, r_guestBits h hS ok (by omega), bind_s, r_clashBits h hg, bind_s, nI_and]
      have lt := and_lt (b := clB T g) (inB_lt S s)
      by_cases c : inB S s &&& clB T g = 0
      · rw [c, if_pos nI_0]; simp
      · rw [if_neg (nI_ne0 (by omega) (by omega))]; simp [c]
theorem c_isLongEnough {t : Nat} {T : Txt} {μ : Mem} (h : cT t T μ) (hT : okT T) {g s : Nat} (hg : g < T.nG) (hs : s < T.nS) : fX7_isLongEnough t (nI s) (nI g) μ = some (decide (T.hr g + T.hs g ≤ T.lo s)) := by
  have g7 := hT.g7
  have s4 := hT.s4
  have gg := hT.gu g hg
  have ss := hT.su s hs
  unfold fX7_isLongEnough
  rw [if_pos (inbN (by omega) (by omega)), if_pos (inbN (by omega) (by omega)), if_pos (inbN (by omega) (by omega)), nI_clamp (by omega), nI_clamp (by omega), h.lo s hs, h.hr g hg, h.hs g hg, nI_add]
  by_cases c : T.lo s < T.hr g + T.hs g
  · rw [if_pos ((nI_ltI (by omega) (by omega)).2 c)]; simp; omega
  · rw [if_neg (fun q => c ((nI_ltI (by omega) (by omega)).1 q))]; simp; omega
theorem c_couldGoIn {A : Abs} {μ : Mem} (hA : okA A) (h : CInv A μ) {g s m : Nat} (hg : g < A.T.nG) (hs : s < A.T.nS) : fX10_couldGoIn (nI g) (nI s) (nI m) μ = some (!A.S.dd g && (fits A.T A.S g s && decide ((clB A.T g &&& inB A.S s) ^^^ ((clB A.T g &&& inB A.S s) &&& m) = 0))) := by
  have g7 := hA.T.g7
  have s4 := hA.T.s4
  unfold fX10_couldGoIn
  rw [c_isDead h.S (by omega), bind_s]
  cases hd : A.S.dd g with
  | true => rw [if_pos rfl]; rfl
  | false =>
    rw [if_neg (by decide), c_isSold h.S (by omega), bind_s]
    unfold fits
    cases he : A.S.sd s with
    | true => rw [if_pos rfl]; rfl
    | false =>
      rw [if_neg (by decide), c_isLongEnough h.T hA.T hg hs, bind_s]
      by_cases c : A.T.hr g + A.T.hs g ≤ A.T.lo s
      · rw [if_pos (by simp [c]), if_pos (inbN (by omega) (by omega)), if_pos (inbN (by omega) (by omega)), nI_clamp (by omega), nI_clamp (by omega), h.T.cl g hg, h.S.wh s (by omega), nI_and, nI_dif]
        have l1 := and_lt (b := inB A.S s) (clB_lt hA.T g)
        have lt : (clB A.T g &&& inB A.S s) ^^^ ((clB A.T g &&& inB A.S s) &&& m) < 128 := Nat.xor_lt_two_pow (n := 7) l1 (and_lt l1)
        by_cases d : (clB A.T g &&& inB A.S s) ^^^ ((clB A.T g &&& inB A.S s) &&& m) = 0
        · rw [d, if_pos nI_0]; simp [c]
        · rw [if_neg (nI_ne0 (by omega) (by omega))]; simp [c, d]
      · rw [if_neg (by simp [c])]; simp [c]
theorem c_couldGoIn0 {A : Abs} {μ : Mem} (hA : okA A) (h : CInv A μ) {g s : Nat} (hg : g < A.T.nG) (hs : s < A.T.nS) : fX10_couldGoIn (nI g) (nI s) 0 μ = some (mayIn A.T A.S g s) := by
  rw [L_0, c_couldGoIn hA h hg hs]
  unfold mayIn
  rw [Nat.and_zero, Nat.xor_zero, Nat.and_comm]
