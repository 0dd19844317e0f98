/-! ===== what a set of guests pays in a Sunday ===== -/
def low (m : Nat) : Nat := ffd m.testBit 7 0
theorem low_all : ∀ m, m < 128 → m = 0 ∨ (low m < 7 ∧ m.testBit (low m) = true ∧ m &&& (m - 1) = m ^^^ 2 ^ low m ∧ m ^^^ (m &&& 2 ^ low m) = m ^^^ 2 ^ low m ∧ m ^^^ 2 ^ low m < m) := by decide +kernel
def m00 : Mem := (fun _ _ => 0, fun _ _ => 0)
theorem ntz_mu (a : Int32) (μ : Mem) : fJ6_numberOfTrailingZeros_0f7a4 a μ = fJ6_numberOfTrailingZeros_0f7a4 a m00 := rfl
theorem ntz_all : ∀ m, m < 128 → m = 0 ∨ fJ6_numberOfTrailingZeros_0f7a4 (nI m) m00 = some (nI (low m)) := by decide +kernel
def payS (T : Txt) (S : St) (s g : Nat) : Nat := (lawV T 0 (vsG T S g s 0)).toNatClampNeg
theorem payS_N (T : Txt) (S : St) (s g : Nat) : lawV T 0 (vsG T S g s 0) = nI (payS T S s g) ∧ payS T S s g ≤ 99 := lawV_N _ _ _
def fitL (T : Txt) (S : St) (s g : Nat) : Bool := !S.dd g && fits T S g s
def lfB (T : Txt) (S : St) (s : Nat) : Nat := bs (fitL T S s) T.nG
def gd (T : Txt) (S : St) (s m : Nat) : Bool := decide (isSub m (lfB T S s)) && cmB T m
def vS (T : Txt) (S : St) (s m : Nat) : Nat := smn (fun g => if m.testBit g = true then payS T S s g else 0) T.nG
def vI (T : Txt) (S : St) (s m : Nat) : Int32 := if gd T S s m = true then nI (vS T S s m) else -1
theorem smn_bd {v : Nat → Nat} {k : Nat} (h : ∀ i, v i ≤ k) : ∀ n, smn v n ≤ n * k
  | 0 => by simp [smn]
  | n + 1 => by have := smn_bd h n; have := h n; rw [smn, Nat.succ_mul]; omega
theorem vS_le {T : Txt} (hT : okT T) (S : St) (s m : Nat) : vS T S s m ≤ 693 := by
  have g7 := hT.g7
  have := smn_bd (v := fun g => if m.testBit g = true then payS T S s g else 0) (k := 99) (fun i => by have := (payS_N T S s i).2; split <;> omega) T.nG
  unfold vS
  have h2 : T.nG * 99 ≤ 7 * 99 := Nat.mul_le_mul_right 99 g7
  omega
theorem smn_at {v w : Nat → Nat} {g k : Nat} : ∀ {n : Nat}, g < n → w g = v g + k → (∀ i, i < n → i ≠ g → w i = v i) → smn w n = smn v n + k
  | 0, h, _, _ => by omega
  | n + 1, hg, h1, h2 => by
    rw [smn, smn]
    by_cases c : g = n
    · subst c
      rw [smn_ext (fun i hi => h2 i (by omega) (by omega)), h1]; omega
    · rw [smn_at (v := v) (g := g) (k := k) (by omega) h1 (fun i hi hn => h2 i (by omega) hn), h2 n (by omega) (by omega)]; omega
theorem bit_nG {n m g : Nat} (hm : m < 2 ^ n) (hb : m.testBit g = true) : g < n := by
  apply Classical.byContradiction
  intro c
  have : 2 ^ n ≤ 2 ^ g := Nat.pow_le_pow_right (by decide) (by omega)
  rw [Nat.testBit_lt_two_pow (by omega)] at hb
  cases hb
theorem rm_bit {m g i : Nat} (hb : m.testBit g = true) : (m ^^^ 2 ^ g).testBit i = (m.testBit i && !decide (g = i)) := by
  rw [Nat.testBit_xor, Nat.testBit_two_pow]
  by_cases c : g = i
  · subst c; rw [hb]; simp
  · simp [c]
theorem vS_low {T : Txt} {S : St} {s m g : Nat} (hm : m < 2 ^ T.nG) (hb : m.testBit g = true) : vS T S s m = vS T S s (m ^^^ 2 ^ g) + payS T S s g := by
  unfold vS
  refine smn_at (g := g) (bit_nG hm hb) ?_ ?_
  · rw [if_pos hb, if_neg (by rw [rm_bit hb]; simp)]; omega
  · intro i hi hn
    rw [rm_bit hb]
    have : decide (g = i) = false := by simp; omega
    rw [this, Bool.not_false, Bool.and_true]
theorem lfB_bit {T : Txt} {S : St} {s g : Nat} (hg : g < T.nG) : (lfB T S s).testBit g = fitL T S s g := by unfold lfB; rw [bs_bit]; simp [hg]
theorem gd_low {T : Txt} {S : St} (hT : okT T) {s m g : Nat} (hm : m < 2 ^ T.nG) (hb : m.testBit g = true) : gd T S s m = (gd T S s (m ^^^ 2 ^ g) && (fitL T S s g && decide (m &&& clB T g = 0))) := by
  have gl := bit_nG hm hb
  have key : gd T S s m = true ↔ (gd T S s (m ^^^ 2 ^ g) && (fitL T S s g && decide (m &&& clB T g = 0))) = true := by
    unfold gd
    simp only [Bool.and_eq_true, decide_eq_true_eq, cmB_iff]
    constructor
    · rintro ⟨h1, h2⟩
      refine ⟨⟨isSub.of ?_, ?_⟩, ?_, h2 g gl hb⟩
      · intro i hi
        rw [rm_bit hb, Bool.and_eq_true] at hi
        exact isSub.bit h1 hi.1
      · intro h hh hm2
        rw [rm_bit hb, Bool.and_eq_true] at hm2
        have := h2 h hh hm2.1
        apply Nat.eq_of_testBit_eq
        intro i
        have t : (m &&& clB T h).testBit i = false := by rw [this]; simp
        rw [Nat.testBit_and] at t
        rw [Nat.testBit_and, rm_bit hb]
        cases a : m.testBit i with
        | false => simp
        | true => rw [a] at t; simp at t; rw [t]; simp
      · rw [← lfB_bit gl]; exact isSub.bit h1 hb
    · rintro ⟨⟨h1, h2⟩, h3, h4⟩
      refine ⟨isSub.of ?_, ?_⟩
      · intro i hi
        by_cases c : g = i
        · subst c; rw [lfB_bit gl]; exact h3
        · exact isSub.bit h1 (by rw [rm_bit hb, hi]; simp [c])
      · intro h hh hm2
        by_cases c : g = h
        · subst c; exact h4
        · have := h2 h hh (by rw [rm_bit hb, hm2]; simp [c])
          apply Nat.eq_of_testBit_eq
          intro i
          rw [Nat.testBit_and, Nat.zero_testBit]
          cases a : m.testBit i with
          | false => rfl
          | true =>
            have il := bit_nG hm a
            by_cases d : g = i
            · subst d
              have t : (m &&& clB T g).testBit h = false := by rw [h4]; simp
              rw [Nat.testBit_and, hm2, clB_bit hh, clash_symm hT] at t
              rw [clB_bit il]
              simpa using t
            · have t : ((m ^^^ 2 ^ g) &&& clB T h).testBit i = false := by rw [this]; simp
              rw [Nat.testBit_and, rm_bit hb, a] at t
              simpa [d] using t
  cases a : gd T S s m with
  | true => exact (key.1 a).symm
  | false =>
    cases b : (gd T S s (m ^^^ 2 ^ g) && (fitL T S s g && decide (m &&& clB T g = 0))) with
    | false => rfl
    | true => rw [key.2 b] at a; cases a
theorem gd_zero (T : Txt) (S : St) (s : Nat) : gd T S s 0 = true := by
  have h1 : isSub 0 (lfB T S s) := Nat.zero_and _
  have h2 : calm T 0 := by intro g hg hb; simp at hb
  unfold gd
  rw [decide_eq_true h1, cmB_iff.2 h2]; rfl
theorem vS_zero (T : Txt) (S : St) (s : Nat) : vS T S s 0 = 0 := by
  unfold vS
  rw [smn_ext (w := fun _ => 0) (fun i _ => by simp), smn_zero]
theorem vI_zero (T : Txt) (S : St) (s : Nat) : vI T S s 0 = 0 := by
  unfold vI; rw [if_pos (gd_zero T S s), vS_zero]; rfl
theorem vI_neg {T : Txt} (hT : okT T) (S : St) (s m : Nat) : vI T S s m < 0 ↔ gd T S s m = false := by
  have := vS_le hT S s m
  unfold vI
  cases gd T S s m with
  | true =>
    rw [if_pos rfl]
    constructor
    · intro q; exact absurd q (nI_pos (by omega))
    · intro q; cases q
  | false => rw [if_neg (by decide)]; decide
theorem vI_m1 {T : Txt} (hT : okT T) (S : St) (s m : Nat) : vI T S s m = -1 ↔ gd T S s m = false := by
  have := vS_le hT S s m
  unfold vI
  cases gd T S s m with
  | true =>
    rw [if_pos rfl]
    constructor
    · intro q; exact absurd (by rw [q]; decide) (nI_pos (n := vS T S s m) (by omega))
    · intro q; cases q
  | false => rw [if_neg (by decide)]; simp
theorem c_livingFit {t u : Nat} {T : Txt} {S : St} {μ : Mem} (h : cT t T μ) (hT : okT T) (hS : cS u S μ) {s : Nat} (hs : s < T.nS) : fX3_livingFit t u (nI s) μ = some (nI (lfB T S s)) := by
  have g7 := hT.g7
  have s4 := hT.s4
  unfold fX3_livingFit
  exact bsum (L := fun n a i => fX3_livingFit_5 t u (nI s) μ (fun y => some y) n a i) (K := fun y => some y) T.nG (fitL T S s) (by omega)
    (by
      intro n i a hi
      show fX3_livingFit_5 _ _ _ _ _ _ _ _ = _
      rw [fX3_livingFit_5, h.nG, if_pos (nI_lt hi (by omega)), c_isDead hS (by omega), bind_s, c_isSold hS (by omega), bind_s, c_isLongEnough h hT hi hs, bind_s, nm_ap, nI_shl i (by omega), nI_1]
      unfold fitL fits
      cases S.dd i with
      | true => rw [if_pos rfl, if_neg (by simp)]
      | false =>
        rw [if_neg (by decide)]
        cases S.sd s with
        | true => rw [if_pos rfl, if_neg (by simp)]
        | false =>
          rw [if_neg (by decide)]
          by_cases c : T.hr i + T.hs i ≤ T.lo s
          · rw [if_pos (by simp [c]), if_pos (by simp [c])]
          · rw [if_neg (by simp [c]), if_neg (by simp [c])])
    (by
      intro n a
      show fX3_livingFit_5 _ _ _ _ _ _ _ _ = _
      rw [fX3_livingFit_5, h.nG, if_neg (nI_nlt (by omega) (by omega))])
theorem Fr.sm {W : CellL} {μ m : Mem} (f : Fr W μ m) {lo hi : Nat} (k : ∀ a j, lo ≤ a → a ≤ hi → ¬ inW W a j) : Sm lo hi μ m := Sm.of f k
abbrev W0 (s : Nat) : CellL := [(181, 1, none), (182, 1, none), (195, 1, none), (185 + s, 1, none)]
theorem c_valueSets {T : Txt} {S : St} {μ : Mem} (hT : okT T) (ok : okS T S) (h : cT 199 T μ) (hS : cS 9 S μ) {s : Nat} (hs : s < T.nS) : ∃ m, fX3_valueSets 199 9 (nI s) μ = some m ∧ Fr (W0 s) μ m ∧ ∀ x, x < 2 ^ T.nG → m.1 (185 + s) x = vI T S s x := by
  have g7 := hT.g7
  have s4 := hT.s4
  have p7 : 2 ^ T.nG ≤ 2 ^ 7 := Nat.pow_le_pow_right (by decide) g7
  have p1 : 1 ≤ 2 ^ T.nG := Nat.two_pow_pos _
  have lf : lfB T S s < 128 := bs_lt7 _ g7
  have hb4 : inb (nI s) 4 := inbN (by omega) (by omega)
  have hcs : (nI s).toNatClampNeg = s := nI_clamp (by omega)
  unfold fX3_valueSets
  rw [c_livingFit h hT hS hs, bind_s]
  simp only [if_pos hb4, hcs, nm_ap]
  refine ex_step (lupX (L := fun n v m => fX3_valueSets_12 199 9 (nI s) (nI (lfB T S s)) (fun μ5 => fX3_valueSets_78 199 9 (185 + s) (nI (lfB T S s)) (fun μ11 => some μ11) FU 1 (wI μ5 (185 + s) 0 0)) n v m) (K := (fun μ5 => fX3_valueSets_78 199 9 (185 + s) (nI (lfB T S s)) (fun μ11 => some μ11) FU 1 (wI μ5 (185 + s) 0 0))) T.nG (fun i m => Fr (W0 s) μ m ∧ ∀ g, g < i → m.1 195 g = nI (if fitL T S s g = true then payS T S s g else 0)) (by omega) ⟨Fr.rfl, fun g hg => by omega⟩ ?_ ?_) ?_
  · rintro n i m hi ⟨mF, mp⟩
    have hb7 : inb (nI i) 7 := inbN (by omega) (by omega)
    have hci : (nI i).toNatClampNeg = i := nI_clamp (by omega)
    have mT : cT 199 T m := h.sm (mF.sm (by intro a j h1 h2; simp [inW]; omega))
    have mS : cS 9 S m := hS.sm (mF.sm (by intro a j h1 h2; simp [inW]; omega))
    show ∃ b, fX3_valueSets_12 _ _ _ _ _ _ _ _ = _ ∧ _
    rw [fX3_valueSets_12, mT.nG, if_pos (nI_lt hi (by omega)), nI_bit (by omega) (by omega), nI_1]
    cases c : fitL T S s i with
    | true =>
      rw [if_pos (bit_one.2 (by rw [lfB_bit hi]; exact c))]
      obtain ⟨q, e⟩ : ∃ m2, fX1_ofGuest 0 199 9 (nI i) (nI s) 0 m = some (lawV T 0 (vsG T S i s 0), m2) := c_ofGuest (k := 0) (by omega) (by omega) hT mT mS (by omega) hi hs 0
      have f : Fr WX1_ofGuest m q := frX1_ofGuest _ _ _ _ _ _ _ _ e
      have f2 : Fr (W0 s) m q := f.mono (by intro a j; simp [WX1_ofGuest, inW]; omega)
      rw [e, bind_s, (payS_N T S s i).1]
      simp only [if_pos hb7, hci, nm_ap]
      refine ⟨_, rfl, (mF.trans f2).wI (by simp [inW]), ?_⟩
      intro g hg
      rw [wI_i]
      by_cases d : g = i
      · rw [if_pos ⟨rfl, d⟩, d, if_pos c]
      · rw [if_neg (by omega), (f 195 g (by simp [WX1_ofGuest, inW])).1]; exact mp g (by omega)
    | false =>
      rw [if_neg (fun q => by have := bit_one.1 q; rw [lfB_bit hi, c] at this; cases this)]
      simp only [if_pos hb7, hci, nm_ap]
      refine ⟨_, rfl, mF.wI (by simp [inW]), ?_⟩
      intro g hg
      rw [wI_i]
      by_cases d : g = i
      · rw [if_pos ⟨rfl, d⟩, d, if_neg (by rw [c]; decide)]; rfl
      · rw [if_neg (by omega)]; exact mp g (by omega)
  · rintro n m ⟨mF, mp⟩
    have mT : cT 199 T m := h.sm (mF.sm (by intro a j h1 h2; simp [inW]; omega))
    show fX3_valueSets_12 _ _ _ _ _ _ _ _ = _
    rw [fX3_valueSets_12, mT.nG, if_neg (nI_nlt (by omega) (by omega))]
  · rintro m ⟨mF, mp⟩
    refine ex_step (lupX1 (L := fun n v m => fX3_valueSets_78 199 9 (185 + s) (nI (lfB T S s)) (fun μ11 => some μ11) n v m) (K := fun μ11 => some μ11) (2 ^ T.nG) (fun i m2 => Fr (W0 s) μ m2 ∧ (∀ g, g < T.nG → m2.1 195 g = nI (if fitL T S s g = true then payS T S s g else 0)) ∧ ∀ x, x < i → m2.1 (185 + s) x = vI T S s x) p1 (by omega) ⟨mF.wI (by simp [inW]), ?_, ?_⟩ ?_ ?_) ?_
    · intro g hg; rw [wI_i, if_neg (by omega)]; exact mp g hg
    · intro x hx
      rw [wI_i, if_pos ⟨rfl, by omega⟩, show x = 0 by omega, vI_zero]
    · rintro n i m2 h1 hi ⟨kF, kp, kv⟩
      have bi : inb (nI i) 128 := inbN (by omega) (by omega)
      have ci : (nI i).toNatClampNeg = i := nI_clamp (by omega)
      have mT : cT 199 T m2 := h.sm (kF.sm (by intro a j h1 h2; simp [inW]; omega))
      rcases low_all i (by omega) with z | ⟨l1, l2, l3, l4, l5⟩
      · omega
      have nt : fJ6_numberOfTrailingZeros_0f7a4 (nI i) m2 = some (nI (low i)) := by
        rcases ntz_all i (by omega) with z | z
        · omega
        · rw [ntz_mu]; exact z
      have gl := bit_nG hi l2
      have b7 : inb (nI (low i)) 7 := inbN (by omega) (by omega)
      have c7 : (nI (low i)).toNatClampNeg = low i := nI_clamp (by omega)
      have ai : nI i &&& (nI i - 1) = nI (i ^^^ 2 ^ low i) := by rw [show nI i - 1 = nI (i - 1) from pk_sub (b := 1) h1, nI_and, l3]
      have bl : inb (nI (i ^^^ 2 ^ low i)) 128 := inbN (by omega) (by omega)
      have cl : (nI (i ^^^ 2 ^ low i)).toNatClampNeg = i ^^^ 2 ^ low i := nI_clamp (by omega)
      have bad : ∀ K2 : Int32 → Mem → Option Mem, gd T S s i = false → fX3_valueSets_j114_78 199 9 (185 + s) K2 (fun μ11 => some μ11) (nI (lfB T S s)) (nI i) 0 m2 = K2 (nI i + 1) (wI m2 (185 + s) i (vI T S s i)) := by
        intro K2 q
        unfold fX3_valueSets_j114_78
        rw [if_pos rfl]
        simp only [if_pos bi, ci, nm_ap]
        rw [(vI_m1 hT S s i).2 q]
      have next : Fr (W0 s) μ (wI m2 (185 + s) i (vI T S s i)) ∧ (∀ g, g < T.nG → (wI m2 (185 + s) i (vI T S s i)).1 195 g = nI (if fitL T S s g = true then payS T S s g else 0)) ∧ ∀ x, x < i + 1 → (wI m2 (185 + s) i (vI T S s i)).1 (185 + s) x = vI T S s x := by
        refine ⟨kF.wI (by simp [inW]), ?_, ?_⟩
        · intro g hg; rw [wI_i, if_neg (by omega)]; exact kp g hg
        · intro x hx
          rw [wI_i]
          by_cases c : x = i
          · rw [if_pos ⟨rfl, c⟩, c]
          · rw [if_neg (by omega)]; exact kv x (by omega)
      show ∃ b, fX3_valueSets_78 _ _ _ _ _ _ _ _ = _ ∧ _
      rw [fX3_valueSets_78, mT.nG, nI_shl _ (by omega), if_pos (nI_lt hi (by omega))]
      simp only [if_pos bi, ci]
      by_cases c1 : isSub i (lfB T S s)
      · rw [if_pos ((dif_zero (by omega)).2 c1)]
        cases c2 : cmB T i with
        | false =>
          rw [if_pos ((mT.cm hi).2 c2), bad _ (by unfold gd; rw [c2, Bool.and_false]), nI_1]
          exact ⟨_, rfl, next⟩
        | true =>
          have g1 : gd T S s i = true := by unfold gd; rw [c2, decide_eq_true c1]; rfl
          have g2 := g1
          rw [gd_low hT hi l2, Bool.and_eq_true, Bool.and_eq_true] at g2
          have lv := vS_low (T := T) (S := S) (s := s) hi l2
          have vle := vS_le hT S s i
          rw [if_neg (fun q => by have := (mT.cm hi).1 q; rw [c2] at this; cases this)]
          unfold fX3_valueSets_j114_78
          rw [if_neg (by decide), ai, nt, bind_s]
          simp only [if_pos bi, ci, if_pos bl, cl, if_pos b7, c7, nm_ap]
          rw [kv _ l5, kp _ gl, if_pos g2.2.1, nI_1]
          have e2 : vI T S s (i ^^^ 2 ^ low i) + nI (payS T S s (low i)) = vI T S s i := by
            unfold vI
            rw [if_pos g2.1, if_pos g1, nI_add, lv]
          rw [e2]
          exact ⟨_, rfl, next⟩
      · rw [if_neg (fun q => c1 ((dif_zero (by omega)).1 q)), bad _ (by unfold gd; rw [decide_eq_false c1]; rfl), nI_1]
        exact ⟨_, rfl, next⟩
    · rintro n m2 ⟨kF, _⟩
      have mT : cT 199 T m2 := h.sm (kF.sm (by intro a j h1 h2; simp [inW]; omega))
      show fX3_valueSets_78 _ _ _ _ _ _ _ _ = _
      rw [fX3_valueSets_78, mT.nG, nI_shl _ (by omega), if_neg (nI_nlt (by omega) (by omega))]
    · rintro m2 ⟨kF, _, kv⟩
      exact ⟨m2, rfl, kF, kv⟩
