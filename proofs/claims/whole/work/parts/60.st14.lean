/-! ===== count ===== -/
theorem shl0 : ∀ i, i < 31 → ((0 : Int32) <<< (nI i &&& 31)) = 0 := by decide +kernel
theorem or0 (x : Int32) : x ||| 0 = x := by
  apply Int32.toBitVec.inj
  simp
def livB (T : Txt) (S : St) : Nat := bs (fun g => !S.dd g) T.nG
theorem r_livingBits {v : Nat} {T : Txt} {S : St} {μ : Mem} (h : rX v T μ) (hS : rS 277 0 S μ) : fX11_livingBits μ = some (nI (livB T S)) := by
  have g7 := h.2.2.1.g7
  have v1 := h.2.1
  unfold fX11_livingBits
  have step : ∀ n i m, i < T.nG → fX11_livingBits_4 μ (fun y => some y) (n + 1) m (nI i) = if S.dd i = true then fX11_livingBits_4 μ (fun y => some y) n m (nI (i + 1)) else fX11_livingBits_4 μ (fun y => some y) n (m ||| nI (2 ^ i)) (nI (i + 1)) := by
    intro n i m hi
    have b14 : inb (nI (14 + i)) 31 := inbN (by omega) (by omega)
    have c14 : (nI (14 + i)).toNatClampNeg = 14 + i := nI_clamp (by omega)
    have a14 : (14 : Int32) + nI i = nI (14 + i) := by rw [L_14, nI_add]
    have dd := hS.dd i (by omega)
    rw [Nat.zero_add] at dd
    rw [fX11_livingBits_4, h.1, if_pos (show inb (nI v) 2 from inbN (by omega) (by omega)), nI_clamp (n := v) (by omega), h.2.2.2.nG, if_pos (nI_lt hi (by omega))]
    simp only [a14, if_pos b14, c14]
    rw [dd, nm_ap, nI_shl i (by omega), nI_1]
    cases S.dd i with
    | true => rw [if_neg (by decide), if_pos rfl]
    | false => rw [if_pos (by decide), if_neg (by decide)]
  refine lbits (L := fun n a i => fX11_livingBits_4 μ (fun y => some y) n a i) (K := fun y => some y) T.nG (fun g => !S.dd g) (by omega) ?_ ?_ ?_
  · intro n i m hi hm hp
    show fX11_livingBits_4 _ _ _ _ _ = _
    rw [step n i _ hi, if_neg (by simpa using hp), nI_or]
  · intro n i m hi hm hp
    show fX11_livingBits_4 _ _ _ _ _ = _
    rw [step n i _ hi, if_pos (by simpa using hp)]
  · intro n m hm
    show fX11_livingBits_4 _ _ _ _ _ = _
    rw [fX11_livingBits_4, h.1, if_pos (show inb (nI v) 2 from inbN (by omega) (by omega)), nI_clamp (n := v) (by omega), h.2.2.2.nG, if_neg (nI_nlt (by omega) (by omega))]
theorem livB_lt {T : Txt} (hT : okT T) (S : St) : livB T S < 128 := bs_lt7 _ hT.g7
theorem c_allIn {t : Nat} {S : St} {μ : Mem} (h : cS t S μ) : fX5_allIn t μ = some (nI (orS (fun _ => true) (inB S) 4)) := by
  unfold fX5_allIn
  have h1 := lupF (L := fun n v (a : Int32) => fX5_allIn_4 t μ (fun y => some y) n a v) (K := fun y => some y) (a := (0 : Int32)) 4 (fun i a => a = nI (orS (fun _ => true) (inB S) i)) (fun i _ => nI (orS (fun _ => true) (inB S) (i + 1))) (by omega) rfl
    (by
      intro n i a hi ha
      have hb : inb (nI i) 4 := inbN (by omega) (by omega)
      have hcl : (nI i).toNatClampNeg = i := nI_clamp (by omega)
      show fX5_allIn_4 _ _ _ _ _ _ = _
      rw [fX5_allIn_4, if_pos (c_lt L_4 hi (by omega))]
      simp only [if_pos hb, hcl, nm_ap]
      rw [h.wh i hi, ha, nI_or, nI_1, orS_yes rfl])
    (by intro i a hi ha; rfl)
    (by
      intro n a ha
      show fX5_allIn_4 _ _ _ _ _ _ = _
      rw [fX5_allIn_4, if_neg (c_nlt L_4 (by omega) (by omega))])
  rw [h1.2] at h1
  exact h1.1
def inAny (T : Txt) (S : St) : Nat := bs (fun g => !(S.wh g == 9)) T.nG
theorem allIn_eq {T : Txt} {S : St} (hT : okT T) (ok : okS T S) : orS (fun _ => true) (inB S) 4 = inAny T S := by
  have g7 := hT.g7
  have s4 := hT.s4
  apply eq_bits (n := 7)
  · exact orS_lt (fun g _ => inB_lt S g)
  · exact bs_lt7 _ g7
  · intro g hg
    rw [orS_bit]
    unfold inAny
    rw [bs_bit]
    by_cases c : S.wh g = 9
    · have e : anyN (fun s => true && (inB S s).testBit g) 4 = false := by
        cases q : anyN (fun s => true && (inB S s).testBit g) 4 with
        | false => rfl
        | true =>
          obtain ⟨s, h1, h2⟩ := anyN_iff.1 q
          rw [Bool.true_and, inB_bit hg] at h2
          have : S.wh g = s := by simpa using h2
          omega
      rw [e]; simp [c]
    · have w := ok.in_nS c
      have e : anyN (fun s => true && (inB S s).testBit g) 4 = true := anyN_iff.2 ⟨S.wh g, by omega, by rw [Bool.true_and, inB_bit hg]; simp⟩
      have gl : g < T.nG := by
        rcases ok.wh g with e | e
        · exact absurd e c
        · exact e.2
      rw [e]; simp [c, gl]
theorem dead_eq {T : Txt} {S : St} (hT : okT T) (ok : okS T S) : (2 ^ T.nG - 1) ^^^ ((2 ^ T.nG - 1) &&& livB T S) = bs S.dd 7 := by
  have g7 := hT.g7
  apply Nat.eq_of_testBit_eq
  intro g
  unfold livB
  rw [Nat.testBit_xor, Nat.testBit_and, Nat.testBit_two_pow_sub_one, bs_bit, bs_bit]
  by_cases c : g < T.nG
  · have : g < 7 := by omega
    simp [c, this]
  · have : S.dd g = false := by
      cases q : S.dd g with
      | false => rfl
      | true => exact absurd (ok.dd g q) c
    simp [c, this]
theorem sold_eq {T : Txt} {S : St} (hT : okT T) (ok : okS T S) : bs S.sd T.nS = bs S.sd 4 := by
  have s4 := hT.s4
  apply Nat.eq_of_testBit_eq
  intro g
  rw [bs_bit, bs_bit]
  by_cases c : g < T.nS
  · have : g < 4 := by omega
    simp [c, this]
  · have : S.sd g = false := by
      cases q : S.sd g with
      | false => rfl
      | true => exact absurd (ok.sd g q) c
    simp [this]
theorem bsum {R : Type} {L : Nat → Int32 → Int32 → Option R} {K : Int32 → Option R} (N : Nat) (p : Nat → Bool) (hN : N < 4096)
    (hs : ∀ n i m, i < N → L (n + 1) m (nI i) = if p i = true then L n (m ||| nI (2 ^ i)) (nI (i + 1)) else L n m (nI (i + 1)))
    (he : ∀ n m, L (n + 1) m (nI N) = K m) : L FU 0 0 = K (nI (bs p N)) := by
  refine lbits N p hN ?_ ?_ ?_
  · intro n i m hi hm hp
    rw [hs n i _ hi, if_pos hp, nI_or]
  · intro n i m hi hm hp
    rw [hs n i _ hi, if_neg (by rw [hp]; decide)]
  · intro n m hm
    exact he n _
theorem c_sumOf {t len : Nat} {μ : Mem} (hl : len < 4096) : fX10_sumOf t len μ = some (smv (fun i => μ.1 t i) len) := by
  unfold fX10_sumOf
  exact lsum (L := fun n a i => fX10_sumOf_4 t len μ (fun y => some y) n a i) (K := fun y => some y) len (fun i => μ.1 t i) hl
    (by
      intro n i a hi
      have hb : inb (nI i) len := inbN hi (by omega)
      have hcl : (nI i).toNatClampNeg = i := nI_clamp (by omega)
      show fX10_sumOf_4 _ _ _ _ _ _ _ = _
      rw [fX10_sumOf_4, if_pos (show nI i < Int32.ofNat len from nI_lt hi (by omega))]
      simp only [if_pos hb, hcl, nm_ap, nI_1])
    (by
      intro n a
      show fX10_sumOf_4 _ _ _ _ _ _ _ = _
      rw [fX10_sumOf_4, if_neg (show ¬ nI len < Int32.ofNat len from nI_nlt (by omega) (by omega))])
theorem smv_ext {v w : Nat → Int32} : ∀ {n : Nat}, (∀ i, i < n → v i = w i) → smv v n = smv w n
  | 0, _ => rfl
  | n + 1, h => by rw [smv, smv, smv_ext (fun i hi => h i (by omega)), h n (by omega)]
theorem r_sumNow {f k : Nat} {μ : Mem} (h : f + k ≤ 31) : fX11_sumNow (nI f) (nI k) μ = some (smv (fun i => μ.1 276 (f + i)) k) := by
  unfold fX11_sumNow
  obtain ⟨b, e, _, i1⟩ := lupE (L := fun n v (a : Int32) => fX11_sumNow_5 (nI f) (nI k) μ (fun y => some y) n a v) (K := fun y => some y) (f + k) (fun i a => f ≤ i ∧ a = smv (fun j => μ.1 276 (f + j)) (i - f))
    (by
      rintro n i a hi ⟨h1, ha⟩
      have hb : inb (nI i) 31 := inbN (by omega) (by omega)
      have hcl : (nI i).toNatClampNeg = i := nI_clamp (by omega)
      show ∃ b, fX11_sumNow_5 _ _ _ _ _ _ _ = _ ∧ _
      rw [fX11_sumNow_5, nI_add, if_pos (nI_lt hi (by omega))]
      simp only [if_pos hb, hcl, nm_ap, nI_1]
      refine ⟨_, rfl, by omega, ?_⟩
      rw [show i + 1 - f = (i - f) + 1 by omega, smv, ← ha, show f + (i - f) = i by omega])
    (by
      rintro n a _
      show fX11_sumNow_5 _ _ _ _ _ _ _ = _
      rw [fX11_sumNow_5, nI_add, if_neg (nI_nlt (by omega) (by omega))])
    k f (4096 - (k + 1)) 0 rfl ⟨by omega, by rw [Nat.sub_self]; rfl⟩
  rw [show k + 1 + (4096 - (k + 1)) = FU by unfold FU; omega] at e
  refine Eq.trans e ?_
  rw [i1, show f + k - f = k by omega]
theorem held3 (p : Nat → Bool) : nI (pcN (bs p 3)) = b2i (p 0) + b2i (p 1) + b2i (p 2) := by
  simp only [bs]
  cases p 0 <;> cases p 1 <;> cases p 2 <;> rfl
theorem bs3_lt (p : Nat → Bool) : bs p 3 < 128 := bs_lt7 p (by omega)
theorem c_moneyDue {A : Abs} {μ : Mem} (hA : okA A) (hc : CInv A μ) : ∃ m, fX10_moneyDue μ = some (smv (gLaw A.T A.S 0) A.T.nG, m) := by
  have g7 := hA.T.g7
  unfold fX10_moneyDue
  obtain ⟨b, e, i1, i2⟩ := lupX (L := fun n w (a : Int32 × Mem) => fX10_moneyDue_4 (fun y2 μ3 => some (y2, μ3)) n a.1 w a.2) (K := fun a => some (a.1, a.2)) (a := ((0 : Int32), μ)) A.T.nG (fun i a => a.1 = smv (gLaw A.T A.S 0) i ∧ CInv A a.2) (by omega) ⟨rfl, hc⟩
    (by
      rintro n i ⟨a, m⟩ hi ⟨ha, hm⟩
      have hm : CInv A m := hm
      obtain ⟨q, e⟩ : ∃ m2, fX1_ofGuestNow 0 199 9 (nI i) m = some (gLaw A.T A.S 0 i, m2) := c_ofGuestNow (k := 0) (by omega) (by omega) hA.T hA.S hm.T hm.S (by omega) hi
      have f := frX1_ofGuestNow _ _ _ _ _ _ e
      have hq : CInv A q := hm.ag (agC f (by decide))
      show ∃ b : Int32 × Mem, fX10_moneyDue_4 _ (n + 1) a (nI i) m = _ ∧ _
      rw [fX10_moneyDue_4, hm.T.nG, if_pos (nI_lt hi (by omega)), e, bind_s, nI_1]
      refine ⟨(a + gLaw A.T A.S 0 i, q), rfl, ?_, hq⟩
      show a + gLaw A.T A.S 0 i = _
      rw [smv, show a = smv (gLaw A.T A.S 0) i from ha])
    (by
      rintro n ⟨a, m⟩ ⟨ha, hm⟩
      have hm : CInv A m := hm
      show fX10_moneyDue_4 _ (n + 1) a (nI A.T.nG) m = _
      rw [fX10_moneyDue_4, hm.T.nG, if_neg (nI_nlt (by omega) (by omega))])
  refine ⟨b.2, ?_⟩
  rw [← i1]
  exact e

theorem c_count_0 {A : Abs} {μ : Mem} (hA : okA A) (hc : CInv A μ) : ∃ m, fX10_count 0 μ = some (nI A.T.nS, m) := by
  have g7 := hA.T.g7
  have s4 := hA.T.s4
  refine ⟨μ, ?_⟩
  unfold fX10_count
  rw [if_pos rfl]
  rw [show μ.1 199 0 = _ from hc.T.nS]
theorem r_count_0 {A : Abs} {μ : Mem} (hA : okA A) (hr : RInv A μ) : ∃ m, fX11_count 0 μ = some (nI A.T.nS, m) := by
  have g7 := hA.T.g7
  have s4 := hA.T.s4
  have v1 := hA.lv
  obtain ⟨m, e1, e2, e3, _⟩ := r_copies hA hr
  have hx := e3.rX hA
  refine ⟨m, ?_⟩
  unfold fX11_count
  rw [e1, bind_s, if_pos rfl]
  rw [hx.1, if_pos (show inb (nI A.lv) 2 from inbN (by omega) (by omega)), nI_clamp (n := A.lv) (by omega), hx.2.2.2.nS]
theorem c_count_1 {A : Abs} {μ : Mem} (hA : okA A) (hc : CInv A μ) : ∃ m, fX10_count 1 μ = some (nI A.T.nG, m) := by
  have g7 := hA.T.g7
  have s4 := hA.T.s4
  refine ⟨μ, ?_⟩
  unfold fX10_count
  rw [if_neg (show ¬ (1 : Int32) = 0 by decide), if_pos rfl]
  rw [show μ.1 199 3 = _ from hc.T.nG]
theorem r_count_1 {A : Abs} {μ : Mem} (hA : okA A) (hr : RInv A μ) : ∃ m, fX11_count 1 μ = some (nI A.T.nG, m) := by
  have g7 := hA.T.g7
  have s4 := hA.T.s4
  have v1 := hA.lv
  obtain ⟨m, e1, e2, e3, _⟩ := r_copies hA hr
  have hx := e3.rX hA
  refine ⟨m, ?_⟩
  unfold fX11_count
  rw [e1, bind_s, if_neg (show ¬ (1 : Int32) = 0 by decide), if_pos rfl]
  rw [hx.1, if_pos (show inb (nI A.lv) 2 from inbN (by omega) (by omega)), nI_clamp (n := A.lv) (by omega), hx.2.2.2.nG]
theorem c_count_2 {A : Abs} {μ : Mem} (hA : okA A) (hc : CInv A μ) : ∃ m, fX10_count 2 μ = some (A.S.wk, m) := by
  have g7 := hA.T.g7
  have s4 := hA.T.s4
  refine ⟨μ, ?_⟩
  unfold fX10_count
  rw [if_neg (show ¬ (2 : Int32) = 0 by decide), if_neg (show ¬ (2 : Int32) = 1 by decide), if_pos rfl]
  rw [show μ.1 9 0 = _ from hc.S.wk]
theorem r_count_2 {A : Abs} {μ : Mem} (hA : okA A) (hr : RInv A μ) : ∃ m, fX11_count 2 μ = some (A.S.wk, m) := by
  have g7 := hA.T.g7
  have s4 := hA.T.s4
  have v1 := hA.lv
  obtain ⟨m, e1, e2, e3, _⟩ := r_copies hA hr
  have hx := e3.rX hA
  refine ⟨m, ?_⟩
  unfold fX11_count
  rw [e1, bind_s, if_neg (show ¬ (2 : Int32) = 0 by decide), if_neg (show ¬ (2 : Int32) = 1 by decide), if_pos rfl]
  have q := e2.wk
  rw [Nat.zero_add] at q
  rw [q]
theorem c_count_3 {A : Abs} {μ : Mem} (hA : okA A) (hc : CInv A μ) : ∃ m, fX10_count 3 μ = some (A.S.mo, m) := by
  have g7 := hA.T.g7
  have s4 := hA.T.s4
  refine ⟨μ, ?_⟩
  unfold fX10_count
  rw [if_neg (show ¬ (3 : Int32) = 0 by decide), if_neg (show ¬ (3 : Int32) = 1 by decide), if_neg (show ¬ (3 : Int32) = 2 by decide), if_pos rfl]
  rw [show μ.1 9 1 = _ from hc.S.mo]
theorem r_count_3 {A : Abs} {μ : Mem} (hA : okA A) (hr : RInv A μ) : ∃ m, fX11_count 3 μ = some (A.S.mo, m) := by
  have g7 := hA.T.g7
  have s4 := hA.T.s4
  have v1 := hA.lv
  obtain ⟨m, e1, e2, e3, _⟩ := r_copies hA hr
  have hx := e3.rX hA
  refine ⟨m, ?_⟩
  unfold fX11_count
  rw [e1, bind_s, if_neg (show ¬ (3 : Int32) = 0 by decide), if_neg (show ¬ (3 : Int32) = 1 by decide), if_neg (show ¬ (3 : Int32) = 2 by decide), if_pos rfl]
  have q := e2.mo
  rw [Nat.zero_add] at q
  rw [q]
theorem c_count_4 {A : Abs} {μ : Mem} (hA : okA A) (hc : CInv A μ) : ∃ m, fX10_count 4 μ = some (nI (inAny A.T A.S), m) := by
  have g7 := hA.T.g7
  have s4 := hA.T.s4
  refine ⟨μ, ?_⟩
  unfold fX10_count
  rw [if_neg (show ¬ (4 : Int32) = 0 by decide), if_neg (show ¬ (4 : Int32) = 1 by decide), if_neg (show ¬ (4 : Int32) = 2 by decide), if_neg (show ¬ (4 : Int32) = 3 by decide), if_pos rfl]
  rw [c_allIn hc.S, bind_s, allIn_eq hA.T hA.S]
theorem r_count_4 {A : Abs} {μ : Mem} (hA : okA A) (hr : RInv A μ) : ∃ m, fX11_count 4 μ = some (nI (inAny A.T A.S), m) := by
  have g7 := hA.T.g7
  have s4 := hA.T.s4
  have v1 := hA.lv
  obtain ⟨m, e1, e2, e3, _⟩ := r_copies hA hr
  have hx := e3.rX hA
  refine ⟨m, ?_⟩
  unfold fX11_count
  rw [e1, bind_s, if_neg (show ¬ (4 : Int32) = 0 by decide), if_neg (show ¬ (4 : Int32) = 1 by decide), if_neg (show ¬ (4 : Int32) = 2 by decide), if_neg (show ¬ (4 : Int32) = 3 by decide), if_pos rfl]
  refine Eq.trans (bsum (L := fun n a i => fX11_count_134 m (fun y => some (y, m)) n a i) (K := fun y => some (y, m)) A.T.nG (fun g => !(A.S.wh g == 9)) (by omega)
    (by
      intro n i a hi
      have hb : inb (nI i) 31 := inbN (by omega) (by omega)
      have hcl : (nI i).toNatClampNeg = i := nI_clamp (by omega)
      have q := e2.wh i (by omega)
      rw [Nat.zero_add] at q
      have w9 : A.S.wh i < 9 ∨ A.S.wh i = 9 := by have := hA.S.w9 hA.T i; omega
      show fX11_count_134 _ _ _ _ _ = _
      rw [fX11_count_134, hx.1, if_pos (show inb (nI A.lv) 2 from inbN (by omega) (by omega)), nI_clamp (n := A.lv) (by omega), hx.2.2.2.nG, if_pos (nI_lt hi (by omega))]
      simp only [if_pos hb, hcl, nm_ap]
      rw [q, nI_shl i (by omega), nI_1]
      by_cases c : A.S.wh i = 9
      · rw [if_pos ((whI_neg w9).2 c), if_neg (by simp [c])]
      · rw [if_neg (fun q => c ((whI_neg w9).1 q)), if_pos (by simp [c])])
    (by
      intro n a
      show fX11_count_134 _ _ _ _ _ = _
      rw [fX11_count_134, hx.1, if_pos (show inb (nI A.lv) 2 from inbN (by omega) (by omega)), nI_clamp (n := A.lv) (by omega), hx.2.2.2.nG, if_neg (nI_nlt (by omega) (by omega))])) ?_
  rfl
theorem c_count_5 {A : Abs} {μ : Mem} (hA : okA A) (hc : CInv A μ) : ∃ m, fX10_count 5 μ = some (nI (bs A.S.dd 7), m) := by
  have g7 := hA.T.g7
  have s4 := hA.T.s4
  refine ⟨μ, ?_⟩
  unfold fX10_count
  rw [if_neg (show ¬ (5 : Int32) = 0 by decide), if_neg (show ¬ (5 : Int32) = 1 by decide), if_neg (show ¬ (5 : Int32) = 2 by decide), if_neg (show ¬ (5 : Int32) = 3 by decide), if_neg (show ¬ (5 : Int32) = 4 by decide), if_pos rfl]
  rw [show μ.1 9 2 = _ from hc.S.dd]
theorem r_count_5 {A : Abs} {μ : Mem} (hA : okA A) (hr : RInv A μ) : ∃ m, fX11_count 5 μ = some (nI (bs A.S.dd 7), m) := by
  have g7 := hA.T.g7
  have s4 := hA.T.s4
  have v1 := hA.lv
  obtain ⟨m, e1, e2, e3, _⟩ := r_copies hA hr
  have hx := e3.rX hA
  refine ⟨m, ?_⟩
  unfold fX11_count
  rw [e1, bind_s, if_neg (show ¬ (5 : Int32) = 0 by decide), if_neg (show ¬ (5 : Int32) = 1 by decide), if_neg (show ¬ (5 : Int32) = 2 by decide), if_neg (show ¬ (5 : Int32) = 3 by decide), if_neg (show ¬ (5 : Int32) = 4 by decide), if_pos rfl]
  rw [hx.1, if_pos (show inb (nI A.lv) 2 from inbN (by omega) (by omega)), nI_clamp (n := A.lv) (by omega), hx.2.2.2.nG, r_livingBits hx e2, bind_s, nI_shl _ (by omega), show nI (2 ^ A.T.nG) - 1 = nI (2 ^ A.T.nG - 1) from pk_sub (b := 1) (Nat.two_pow_pos _), nI_dif, dead_eq hA.T hA.S]
theorem c_count_6 {A : Abs} {μ : Mem} (hA : okA A) (hc : CInv A μ) : ∃ m, fX10_count 6 μ = some (nI (bs A.S.sd 4), m) := by
  have g7 := hA.T.g7
  have s4 := hA.T.s4
  refine ⟨μ, ?_⟩
  unfold fX10_count
  rw [if_neg (show ¬ (6 : Int32) = 0 by decide), if_neg (show ¬ (6 : Int32) = 1 by decide), if_neg (show ¬ (6 : Int32) = 2 by decide), if_neg (show ¬ (6 : Int32) = 3 by decide), if_neg (show ¬ (6 : Int32) = 4 by decide), if_neg (show ¬ (6 : Int32) = 5 by decide), if_pos rfl]
  rw [show μ.1 9 3 = _ from hc.S.sd]
theorem r_count_6 {A : Abs} {μ : Mem} (hA : okA A) (hr : RInv A μ) : ∃ m, fX11_count 6 μ = some (nI (bs A.S.sd 4), m) := by
  have g7 := hA.T.g7
  have s4 := hA.T.s4
  have v1 := hA.lv
  obtain ⟨m, e1, e2, e3, _⟩ := r_copies hA hr
  have hx := e3.rX hA
  refine ⟨m, ?_⟩
  unfold fX11_count
  rw [e1, bind_s, if_neg (show ¬ (6 : Int32) = 0 by decide), if_neg (show ¬ (6 : Int32) = 1 by decide), if_neg (show ¬ (6 : Int32) = 2 by decide), if_neg (show ¬ (6 : Int32) = 3 by decide), if_neg (show ¬ (6 : Int32) = 4 by decide), if_neg (show ¬ (6 : Int32) = 5 by decide), if_pos rfl]
  refine Eq.trans (bsum (L := fun n a i => fX11_count_193 m (fun y => some (y, m)) n a i) (K := fun y => some (y, m)) A.T.nS A.S.sd (by omega)
    (by
      intro n i a hi
      have b2 : inb (nI (25 + i)) 31 := inbN (by omega) (by omega)
      have c2 : (nI (25 + i)).toNatClampNeg = 25 + i := nI_clamp (by omega)
      have a2 : (25 : Int32) + nI i = nI (25 + i) := by rw [L_25, nI_add]
      have q := e2.sd i (by omega)
      rw [Nat.zero_add] at q
      show fX11_count_193 _ _ _ _ _ = _
      rw [fX11_count_193, hx.1, if_pos (show inb (nI A.lv) 2 from inbN (by omega) (by omega)), nI_clamp (n := A.lv) (by omega), hx.2.2.2.nS, if_pos (nI_lt hi (by omega))]
      simp only [a2, if_pos b2, c2, nm_ap]
      rw [q, nI_1]
      cases A.S.sd i with
      | true => rw [if_pos rfl, show b2i true = 1 from rfl, nI_shl i (by omega)]
      | false => rw [if_neg (by decide), show b2i false = 0 from rfl, shl0 i (by omega), or0])
    (by
      intro n a
      show fX11_count_193 _ _ _ _ _ = _
      rw [fX11_count_193, hx.1, if_pos (show inb (nI A.lv) 2 from inbN (by omega) (by omega)), nI_clamp (n := A.lv) (by omega), hx.2.2.2.nS, if_neg (nI_nlt (by omega) (by omega))])) ?_
  rw [sold_eq hA.T hA.S]
theorem c_count_7 {A : Abs} {μ : Mem} (hA : okA A) (hc : CInv A μ) : ∃ m, fX10_count 7 μ = some (smv (gLaw A.T A.S 0) A.T.nG, m) := by
  have g7 := hA.T.g7
  have s4 := hA.T.s4
  obtain ⟨m, e⟩ := c_moneyDue hA hc
  refine ⟨m, ?_⟩
  unfold fX10_count
  rw [if_neg (show ¬ (7 : Int32) = 0 by decide), if_neg (show ¬ (7 : Int32) = 1 by decide), if_neg (show ¬ (7 : Int32) = 2 by decide), if_neg (show ¬ (7 : Int32) = 3 by decide), if_neg (show ¬ (7 : Int32) = 4 by decide), if_neg (show ¬ (7 : Int32) = 5 by decide), if_neg (show ¬ (7 : Int32) = 6 by decide), if_pos rfl, e, bind_s]
theorem r_count_7 {A : Abs} {μ : Mem} (hA : okA A) (hr : RInv A μ) : ∃ m, fX11_count 7 μ = some (smv (gLaw A.T A.S 0) A.T.nG, m) := by
  have g7 := hA.T.g7
  have s4 := hA.T.s4
  have v1 := hA.lv
  obtain ⟨m, e1, z, _⟩ := r_cz hA hr
  obtain ⟨q, e, _⟩ := r_dueAll z hA.S
  refine ⟨q, ?_⟩
  unfold fX11_count
  rw [e1, bind_s, if_neg (show ¬ (7 : Int32) = 0 by decide), if_neg (show ¬ (7 : Int32) = 1 by decide), if_neg (show ¬ (7 : Int32) = 2 by decide), if_neg (show ¬ (7 : Int32) = 3 by decide), if_neg (show ¬ (7 : Int32) = 4 by decide), if_neg (show ¬ (7 : Int32) = 5 by decide), if_neg (show ¬ (7 : Int32) = 6 by decide), if_pos rfl, e, bind_s]
theorem c_count_8 {A : Abs} {μ : Mem} (hA : okA A) (hc : CInv A μ) : ∃ m, fX10_count 8 μ = some (nI A.tn, m) := by
  have g7 := hA.T.g7
  have s4 := hA.T.s4
  refine ⟨μ, ?_⟩
  unfold fX10_count
  rw [if_neg (show ¬ (8 : Int32) = 0 by decide), if_neg (show ¬ (8 : Int32) = 1 by decide), if_neg (show ¬ (8 : Int32) = 2 by decide), if_neg (show ¬ (8 : Int32) = 3 by decide), if_neg (show ¬ (8 : Int32) = 4 by decide), if_neg (show ¬ (8 : Int32) = 5 by decide), if_neg (show ¬ (8 : Int32) = 6 by decide), if_neg (show ¬ (8 : Int32) = 7 by decide), if_pos rfl]
  rw [show μ.1 1 1 = _ from hc.tn]
theorem r_count_8 {A : Abs} {μ : Mem} (hA : okA A) (hr : RInv A μ) : ∃ m, fX11_count 8 μ = some (nI A.tn, m) := by
  have g7 := hA.T.g7
  have s4 := hA.T.s4
  have v1 := hA.lv
  obtain ⟨m, e1, e2, e3, _⟩ := r_copies hA hr
  have hx := e3.rX hA
  refine ⟨m, ?_⟩
  unfold fX11_count
  rw [e1, bind_s, if_neg (show ¬ (8 : Int32) = 0 by decide), if_neg (show ¬ (8 : Int32) = 1 by decide), if_neg (show ¬ (8 : Int32) = 2 by decide), if_neg (show ¬ (8 : Int32) = 3 by decide), if_neg (show ¬ (8 : Int32) = 4 by decide), if_neg (show ¬ (8 : Int32) = 5 by decide), if_neg (show ¬ (8 : Int32) = 6 by decide), if_neg (show ¬ (8 : Int32) = 7 by decide), if_pos rfl]
  rw [e3.tn]
theorem c_count_9 {A : Abs} {μ : Mem} (hA : okA A) (hc : CInv A μ) : ∃ m, fX10_count 9 μ = some (nI A.k, m) := by
  have g7 := hA.T.g7
  have s4 := hA.T.s4
  refine ⟨μ, ?_⟩
  unfold fX10_count
  rw [if_neg (show ¬ (9 : Int32) = 0 by decide), if_neg (show ¬ (9 : Int32) = 1 by decide), if_neg (show ¬ (9 : Int32) = 2 by decide), if_neg (show ¬ (9 : Int32) = 3 by decide), if_neg (show ¬ (9 : Int32) = 4 by decide), if_neg (show ¬ (9 : Int32) = 5 by decide), if_neg (show ¬ (9 : Int32) = 6 by decide), if_neg (show ¬ (9 : Int32) = 7 by decide), if_neg (show ¬ (9 : Int32) = 8 by decide), if_pos rfl]
  rw [show μ.1 17 0 = _ from hc.hn]
theorem r_count_9 {A : Abs} {μ : Mem} (hA : okA A) (hr : RInv A μ) : ∃ m, fX11_count 9 μ = some (nI A.k, m) := by
  have g7 := hA.T.g7
  have s4 := hA.T.s4
  have v1 := hA.lv
  obtain ⟨m, e1, e2, e3, _⟩ := r_copies hA hr
  have hx := e3.rX hA
  refine ⟨m, ?_⟩
  unfold fX11_count
  rw [e1, bind_s, if_neg (show ¬ (9 : Int32) = 0 by decide), if_neg (show ¬ (9 : Int32) = 1 by decide), if_neg (show ¬ (9 : Int32) = 2 by decide), if_neg (show ¬ (9 : Int32) = 3 by decide), if_neg (show ¬ (9 : Int32) = 4 by decide), if_neg (show ¬ (9 : Int32) = 5 by decide), if_neg (show ¬ (9 : Int32) = 6 by decide), if_neg (show ¬ (9 : Int32) = 7 by decide), if_neg (show ¬ (9 : Int32) = 8 by decide), if_pos rfl]
  rw [e3.hn]
theorem c_count_10 {A : Abs} {μ : Mem} (hA : okA A) (hc : CInv A μ) : ∃ m, fX10_count 10 μ = some (nI A.cl, m) := by
  have g7 := hA.T.g7
  have s4 := hA.T.s4
  refine ⟨μ, ?_⟩
  unfold fX10_count
  rw [if_neg (show ¬ (10 : Int32) = 0 by decide), if_neg (show ¬ (10 : Int32) = 1 by decide), if_neg (show ¬ (10 : Int32) = 2 by decide), if_neg (show ¬ (10 : Int32) = 3 by decide), if_neg (show ¬ (10 : Int32) = 4 by decide), if_neg (show ¬ (10 : Int32) = 5 by decide), if_neg (show ¬ (10 : Int32) = 6 by decide), if_neg (show ¬ (10 : Int32) = 7 by decide), if_neg (show ¬ (10 : Int32) = 8 by decide), if_neg (show ¬ (10 : Int32) = 9 by decide), if_pos rfl]
  rw [show μ.1 196 0 = _ from hc.cn]
theorem r_count_10 {A : Abs} {μ : Mem} (hA : okA A) (hr : RInv A μ) : ∃ m, fX11_count 10 μ = some (nI A.cl, m) := by
  have g7 := hA.T.g7
  have s4 := hA.T.s4
  have v1 := hA.lv
  obtain ⟨m, e1, e2, e3, _⟩ := r_copies hA hr
  have hx := e3.rX hA
  refine ⟨m, ?_⟩
  unfold fX11_count
  rw [e1, bind_s, if_neg (show ¬ (10 : Int32) = 0 by decide), if_neg (show ¬ (10 : Int32) = 1 by decide), if_neg (show ¬ (10 : Int32) = 2 by decide), if_neg (show ¬ (10 : Int32) = 3 by decide), if_neg (show ¬ (10 : Int32) = 4 by decide), if_neg (show ¬ (10 : Int32) = 5 by decide), if_neg (show ¬ (10 : Int32) = 6 by decide), if_neg (show ¬ (10 : Int32) = 7 by decide), if_neg (show ¬ (10 : Int32) = 8 by decide), if_neg (show ¬ (10 : Int32) = 9 by decide), if_pos rfl]
  rw [e3.cn]
theorem c_count_11 {A : Abs} {μ : Mem} (hA : okA A) (hc : CInv A μ) : ∃ m, fX10_count 11 μ = some (nI (pcN (bs (fun i => (A.he i).isSome) 3)), m) := by
  have g7 := hA.T.g7
  have s4 := hA.T.s4
  refine ⟨μ, ?_⟩
  unfold fX10_count
  rw [if_neg (show ¬ (11 : Int32) = 0 by decide), if_neg (show ¬ (11 : Int32) = 1 by decide), if_neg (show ¬ (11 : Int32) = 2 by decide), if_neg (show ¬ (11 : Int32) = 3 by decide), if_neg (show ¬ (11 : Int32) = 4 by decide), if_neg (show ¬ (11 : Int32) = 5 by decide), if_neg (show ¬ (11 : Int32) = 6 by decide), if_neg (show ¬ (11 : Int32) = 7 by decide), if_neg (show ¬ (11 : Int32) = 8 by decide), if_neg (show ¬ (11 : Int32) = 9 by decide), if_neg (show ¬ (11 : Int32) = 10 by decide), if_pos rfl]
  rw [show μ.1 0 11 = _ from hc.hh, c_bits (bs3_lt _), bind_s]
theorem r_count_11 {A : Abs} {μ : Mem} (hA : okA A) (hr : RInv A μ) : ∃ m, fX11_count 11 μ = some (nI (pcN (bs (fun i => (A.he i).isSome) 3)), m) := by
  have g7 := hA.T.g7
  have s4 := hA.T.s4
  have v1 := hA.lv
  obtain ⟨m, e1, e2, e3, _⟩ := r_copies hA hr
  have hx := e3.rX hA
  refine ⟨m, ?_⟩
  unfold fX11_count
  rw [e1, bind_s, if_neg (show ¬ (11 : Int32) = 0 by decide), if_neg (show ¬ (11 : Int32) = 1 by decide), if_neg (show ¬ (11 : Int32) = 2 by decide), if_neg (show ¬ (11 : Int32) = 3 by decide), if_neg (show ¬ (11 : Int32) = 4 by decide), if_neg (show ¬ (11 : Int32) = 5 by decide), if_neg (show ¬ (11 : Int32) = 6 by decide), if_neg (show ¬ (11 : Int32) = 7 by decide), if_neg (show ¬ (11 : Int32) = 8 by decide), if_neg (show ¬ (11 : Int32) = 9 by decide), if_neg (show ¬ (11 : Int32) = 10 by decide), if_pos rfl]
  have j : ∀ x : Int32, fX11_count_j262 x m = some (x + b2i (A.he 1).isSome + b2i (A.he 2).isSome, m) := by
    intro x
    unfold fX11_count_j262
    rw [e3.hh 1 (by omega), e3.hh 2 (by omega)]
    cases (A.he 1).isSome <;> cases (A.he 2).isSome <;> rfl
  rw [j, j, e3.hh 0 (by omega), held3]
  cases (A.he 0).isSome <;> rfl
theorem c_count_12 {A : Abs} {μ : Mem} (hA : okA A) (hc : CInv A μ) : ∃ m, fX10_count 12 μ = some (smv (fun s => nI (A.S.wn s)) 4, m) := by
  have g7 := hA.T.g7
  have s4 := hA.T.s4
  refine ⟨μ, ?_⟩
  unfold fX10_count
  rw [if_neg (show ¬ (12 : Int32) = 0 by decide), if_neg (show ¬ (12 : Int32) = 1 by decide), if_neg (show ¬ (12 : Int32) = 2 by decide), if_neg (show ¬ (12 : Int32) = 3 by decide), if_neg (show ¬ (12 : Int32) = 4 by decide), if_neg (show ¬ (12 : Int32) = 5 by decide), if_neg (show ¬ (12 : Int32) = 6 by decide), if_neg (show ¬ (12 : Int32) = 7 by decide), if_neg (show ¬ (12 : Int32) = 8 by decide), if_neg (show ¬ (12 : Int32) = 9 by decide), if_neg (show ¬ (12 : Int32) = 10 by decide), if_neg (show ¬ (12 : Int32) = 11 by decide), if_pos rfl]
  rw [c_sumOf (by omega), bind_s, smv_ext (fun i hi => show μ.1 11 i = nI (A.S.wn i) from hc.S.wn i (by omega))]
theorem r_count_12 {A : Abs} {μ : Mem} (hA : okA A) (hr : RInv A μ) : ∃ m, fX11_count 12 μ = some (smv (fun s => nI (A.S.wn s)) 4, m) := by
  have g7 := hA.T.g7
  have s4 := hA.T.s4
  have v1 := hA.lv
  obtain ⟨m, e1, e2, e3, _⟩ := r_copies hA hr
  have hx := e3.rX hA
  refine ⟨m, ?_⟩
  unfold fX11_count
  rw [e1, bind_s, if_neg (show ¬ (12 : Int32) = 0 by decide), if_neg (show ¬ (12 : Int32) = 1 by decide), if_neg (show ¬ (12 : Int32) = 2 by decide), if_neg (show ¬ (12 : Int32) = 3 by decide), if_neg (show ¬ (12 : Int32) = 4 by decide), if_neg (show ¬ (12 : Int32) = 5 by decide), if_neg (show ¬ (12 : Int32) = 6 by decide), if_neg (show ¬ (12 : Int32) = 7 by decide), if_neg (show ¬ (12 : Int32) = 8 by decide), if_neg (show ¬ (12 : Int32) = 9 by decide), if_neg (show ¬ (12 : Int32) = 10 by decide), if_neg (show ¬ (12 : Int32) = 11 by decide), if_pos rfl]
  rw [show fX11_sumNow 21 4 m = _ from r_sumNow (f := 21) (k := 4) (by omega), bind_s, smv_ext (fun i hi => show m.1 276 (21 + i) = nI (A.S.wn i) by have := e3.S.wn i (by omega); rwa [Nat.zero_add] at this)]
theorem c_count_13 {A : Abs} {μ : Mem} (hA : okA A) (hc : CInv A μ) : ∃ m, fX10_count 13 μ = some (smv (fun g => nI (A.S.re g)) 7, m) := by
  have g7 := hA.T.g7
  have s4 := hA.T.s4
  refine ⟨μ, ?_⟩
  unfold fX10_count
  rw [if_neg (show ¬ (13 : Int32) = 0 by decide), if_neg (show ¬ (13 : Int32) = 1 by decide), if_neg (show ¬ (13 : Int32) = 2 by decide), if_neg (show ¬ (13 : Int32) = 3 by decide), if_neg (show ¬ (13 : Int32) = 4 by decide), if_neg (show ¬ (13 : Int32) = 5 by decide), if_neg (show ¬ (13 : Int32) = 6 by decide), if_neg (show ¬ (13 : Int32) = 7 by decide), if_neg (show ¬ (13 : Int32) = 8 by decide), if_neg (show ¬ (13 : Int32) = 9 by decide), if_neg (show ¬ (13 : Int32) = 10 by decide), if_neg (show ¬ (13 : Int32) = 11 by decide), if_neg (show ¬ (13 : Int32) = 12 by decide), if_pos rfl]
  rw [c_sumOf (by omega), bind_s, smv_ext (fun i hi => show μ.1 12 i = nI (A.S.re i) from hc.S.re i (by omega))]
theorem r_count_13 {A : Abs} {μ : Mem} (hA : okA A) (hr : RInv A μ) : ∃ m, fX11_count 13 μ = some (smv (fun g => nI (A.S.re g)) 7, m) := by
  have g7 := hA.T.g7
  have s4 := hA.T.s4
  have v1 := hA.lv
  obtain ⟨m, e1, e2, e3, _⟩ := r_copies hA hr
  have hx := e3.rX hA
  refine ⟨m, ?_⟩
  unfold fX11_count
  rw [e1, bind_s, if_neg (show ¬ (13 : Int32) = 0 by decide), if_neg (show ¬ (13 : Int32) = 1 by decide), if_neg (show ¬ (13 : Int32) = 2 by decide), if_neg (show ¬ (13 : Int32) = 3 by decide), if_neg (show ¬ (13 : Int32) = 4 by decide), if_neg (show ¬ (13 : Int32) = 5 by decide), if_neg (show ¬ (13 : Int32) = 6 by decide), if_neg (show ¬ (13 : Int32) = 7 by decide), if_neg (show ¬ (13 : Int32) = 8 by decide), if_neg (show ¬ (13 : Int32) = 9 by decide), if_neg (show ¬ (13 : Int32) = 10 by decide), if_neg (show ¬ (13 : Int32) = 11 by decide), if_neg (show ¬ (13 : Int32) = 12 by decide), if_pos rfl]
  rw [show fX11_sumNow 7 7 m = _ from r_sumNow (f := 7) (k := 7) (by omega), bind_s, smv_ext (fun i hi => show m.1 276 (7 + i) = nI (A.S.re i) by have := e3.S.re i (by omega); rwa [Nat.zero_add] at this)]
theorem c_count_14 {A : Abs} {μ : Mem} (hA : okA A) (hc : CInv A μ) : ∃ m, fX10_count 14 μ = some (smv (fun g => nI (pcN (clB A.T g))) A.T.nG / 2, m) := by
  have g7 := hA.T.g7
  have s4 := hA.T.s4
  refine ⟨μ, ?_⟩
  unfold fX10_count
  rw [if_neg (show ¬ (14 : Int32) = 0 by decide), if_neg (show ¬ (14 : Int32) = 1 by decide), if_neg (show ¬ (14 : Int32) = 2 by decide), if_neg (show ¬ (14 : Int32) = 3 by decide), if_neg (show ¬ (14 : Int32) = 4 by decide), if_neg (show ¬ (14 : Int32) = 5 by decide), if_neg (show ¬ (14 : Int32) = 6 by decide), if_neg (show ¬ (14 : Int32) = 7 by decide), if_neg (show ¬ (14 : Int32) = 8 by decide), if_neg (show ¬ (14 : Int32) = 9 by decide), if_neg (show ¬ (14 : Int32) = 10 by decide), if_neg (show ¬ (14 : Int32) = 11 by decide), if_neg (show ¬ (14 : Int32) = 12 by decide), if_neg (show ¬ (14 : Int32) = 13 by decide), if_pos rfl]
  unfold fX10_clashingPairs
  rw [lsum (L := fun n a i => fX10_clashingPairs_4 μ (fun y => some (y / 2)) n a i) (K := fun y => some (y / 2)) A.T.nG (fun g => nI (pcN (clB A.T g))) (by omega)
    (by
      intro n i a hi
      have hb : inb (nI i) 7 := inbN (by omega) (by omega)
      have hcl : (nI i).toNatClampNeg = i := nI_clamp (by omega)
      show fX10_clashingPairs_4 _ _ _ _ _ = _
      rw [fX10_clashingPairs_4, hc.T.nG, if_pos (nI_lt hi (by omega))]
      simp only [if_pos hb, hcl]
      rw [show μ.1 209 i = _ from hc.T.cl i hi, c_bits (clB_lt hA.T i), bind_s, nI_1])
    (by
      intro n a
      show fX10_clashingPairs_4 _ _ _ _ _ = _
      rw [fX10_clashingPairs_4, hc.T.nG, if_neg (nI_nlt (by omega) (by omega))]), bind_s]
theorem r_count_14 {A : Abs} {μ : Mem} (hA : okA A) (hr : RInv A μ) : ∃ m, fX11_count 14 μ = some (smv (fun g => nI (pcN (clB A.T g))) A.T.nG / 2, m) := by
  have g7 := hA.T.g7
  have s4 := hA.T.s4
  have v1 := hA.lv
  obtain ⟨m, e1, e2, e3, _⟩ := r_copies hA hr
  have hx := e3.rX hA
  refine ⟨m, ?_⟩
  unfold fX11_count
  rw [e1, bind_s, if_neg (show ¬ (14 : Int32) = 0 by decide), if_neg (show ¬ (14 : Int32) = 1 by decide), if_neg (show ¬ (14 : Int32) = 2 by decide), if_neg (show ¬ (14 : Int32) = 3 by decide), if_neg (show ¬ (14 : Int32) = 4 by decide), if_neg (show ¬ (14 : Int32) = 5 by decide), if_neg (show ¬ (14 : Int32) = 6 by decide), if_neg (show ¬ (14 : Int32) = 7 by decide), if_neg (show ¬ (14 : Int32) = 8 by decide), if_neg (show ¬ (14 : Int32) = 9 by decide), if_neg (show ¬ (14 : Int32) = 10 by decide), if_neg (show ¬ (14 : Int32) = 11 by decide), if_neg (show ¬ (14 : Int32) = 12 by decide), if_neg (show ¬ (14 : Int32) = 13 by decide), if_pos rfl]
  refine Eq.trans (lsum (L := fun n a i => fX11_count_312 m (fun y => some (y / 2, m)) n a i) (K := fun y => some (y / 2, m)) A.T.nG (fun g => nI (pcN (clB A.T g))) (by omega)
    (by
      intro n i a hi
      show fX11_count_312 _ _ _ _ _ = _
      rw [fX11_count_312, hx.1, if_pos (show inb (nI A.lv) 2 from inbN (by omega) (by omega)), nI_clamp (n := A.lv) (by omega), hx.2.2.2.nG, if_pos (nI_lt hi (by omega)), r_clashBits hx hi, bind_s, r_bits (clB_lt hA.T i), bind_s, nI_1])
    (by
      intro n a
      show fX11_count_312 _ _ _ _ _ = _
      rw [fX11_count_312, hx.1, if_pos (show inb (nI A.lv) 2 from inbN (by omega) (by omega)), nI_clamp (n := A.lv) (by omega), hx.2.2.2.nG, if_neg (nI_nlt (by omega) (by omega))])) ?_
  rfl
theorem c_count_15 {A : Abs} {μ : Mem} (hA : okA A) (hc : CInv A μ) : ∃ m, fX10_count 15 μ = some (nI (bs (fun s => !(inB A.S s == 0)) A.T.nS), m) := by
  have g7 := hA.T.g7
  have s4 := hA.T.s4
  refine ⟨μ, ?_⟩
  unfold fX10_count
  rw [if_neg (show ¬ (15 : Int32) = 0 by decide), if_neg (show ¬ (15 : Int32) = 1 by decide), if_neg (show ¬ (15 : Int32) = 2 by decide), if_neg (show ¬ (15 : Int32) = 3 by decide), if_neg (show ¬ (15 : Int32) = 4 by decide), if_neg (show ¬ (15 : Int32) = 5 by decide), if_neg (show ¬ (15 : Int32) = 6 by decide), if_neg (show ¬ (15 : Int32) = 7 by decide), if_neg (show ¬ (15 : Int32) = 8 by decide), if_neg (show ¬ (15 : Int32) = 9 by decide), if_neg (show ¬ (15 : Int32) = 10 by decide), if_neg (show ¬ (15 : Int32) = 11 by decide), if_neg (show ¬ (15 : Int32) = 12 by decide), if_neg (show ¬ (15 : Int32) = 13 by decide), if_neg (show ¬ (15 : Int32) = 14 by decide), if_pos rfl]
  unfold fX10_sundaysWithGuests
  rw [bsum (L := fun n a i => fX10_sundaysWithGuests_4 μ (fun y => some y) n a i) (K := fun y => some y) A.T.nS (fun s => !(inB A.S s == 0)) (by omega)
    (by
      intro n i a hi
      have hb : inb (nI i) 4 := inbN (by omega) (by omega)
      have hcl : (nI i).toNatClampNeg = i := nI_clamp (by omega)
      have lt := inB_lt A.S i
      show fX10_sundaysWithGuests_4 _ _ _ _ _ = _
      rw [fX10_sundaysWithGuests_4, hc.T.nS, if_pos (nI_lt hi (by omega))]
      simp only [if_pos hb, hcl, nm_ap]
      rw [show μ.1 10 i = _ from hc.S.wh i (by omega), nI_shl i (by omega), nI_1]
      by_cases c : inB A.S i = 0
      · rw [if_pos (by rw [c]; rfl), if_neg (by simp [c])]
      · rw [if_neg (nI_ne0 (by omega) (by omega)), if_pos (by simp [c])])
    (by
      intro n a
      show fX10_sundaysWithGuests_4 _ _ _ _ _ = _
      rw [fX10_sundaysWithGuests_4, hc.T.nS, if_neg (nI_nlt (by omega) (by omega))]), bind_s]
theorem r_count_15 {A : Abs} {μ : Mem} (hA : okA A) (hr : RInv A μ) : ∃ m, fX11_count 15 μ = some (nI (bs (fun s => !(inB A.S s == 0)) A.T.nS), m) := by
  have g7 := hA.T.g7
  have s4 := hA.T.s4
  have v1 := hA.lv
  obtain ⟨m, e1, e2, e3, _⟩ := r_copies hA hr
  have hx := e3.rX hA
  refine ⟨m, ?_⟩
  unfold fX11_count
  rw [e1, bind_s, if_neg (show ¬ (15 : Int32) = 0 by decide), if_neg (show ¬ (15 : Int32) = 1 by decide), if_neg (show ¬ (15 : Int32) = 2 by decide), if_neg (show ¬ (15 : Int32) = 3 by decide), if_neg (show ¬ (15 : Int32) = 4 by decide), if_neg (show ¬ (15 : Int32) = 5 by decide), if_neg (show ¬ (15 : Int32) = 6 by decide), if_neg (show ¬ (15 : Int32) = 7 by decide), if_neg (show ¬ (15 : Int32) = 8 by decide), if_neg (show ¬ (15 : Int32) = 9 by decide), if_neg (show ¬ (15 : Int32) = 10 by decide), if_neg (show ¬ (15 : Int32) = 11 by decide), if_neg (show ¬ (15 : Int32) = 12 by decide), if_neg (show ¬ (15 : Int32) = 13 by decide), if_neg (show ¬ (15 : Int32) = 14 by decide), if_pos rfl]
  refine Eq.trans (bsum (L := fun n a i => fX11_count_348 m (fun y => some (y, m)) n a i) (K := fun y => some (y, m)) A.T.nS (fun s => !(inB A.S s == 0)) (by omega)
    (by
      intro n i a hi
      have lt := inB_lt A.S i
      show fX11_count_348 _ _ _ _ _ = _
      rw [fX11_count_348, hx.1, if_pos (show inb (nI A.lv) 2 from inbN (by omega) (by omega)), nI_clamp (n := A.lv) (by omega), hx.2.2.2.nS, if_pos (nI_lt hi (by omega)), r_guestBits hx e2 hA.S (by omega), bind_s, nm_ap, nI_shl i (by omega), nI_1]
      by_cases c : inB A.S i = 0
      · rw [if_pos (by rw [c]; rfl), if_neg (by simp [c])]
      · rw [if_neg (nI_ne0 (by omega) (by omega)), if_pos (by simp [c])])
    (by
      intro n a
      show fX11_count_348 _ _ _ _ _ = _
      rw [fX11_count_348, hx.1, if_pos (show inb (nI A.lv) 2 from inbN (by omega) (by omega)), nI_clamp (n := A.lv) (by omega), hx.2.2.2.nS, if_neg (nI_nlt (by omega) (by omega))])) ?_
  rfl
theorem c_count_16 {A : Abs} {μ : Mem} (hA : okA A) (hc : CInv A μ) : ∃ m, fX10_count 16 μ = some (nI (bs (fun g => !(fitB A.T A.S g == 0)) A.T.nG), m) := by
  have g7 := hA.T.g7
  have s4 := hA.T.s4
  refine ⟨μ, ?_⟩
  unfold fX10_count
  rw [if_neg (show ¬ (16 : Int32) = 0 by decide), if_neg (show ¬ (16 : Int32) = 1 by decide), if_neg (show ¬ (16 : Int32) = 2 by decide), if_neg (show ¬ (16 : Int32) = 3 by decide), if_neg (show ¬ (16 : Int32) = 4 by decide), if_neg (show ¬ (16 : Int32) = 5 by decide), if_neg (show ¬ (16 : Int32) = 6 by decide), if_neg (show ¬ (16 : Int32) = 7 by decide), if_neg (show ¬ (16 : Int32) = 8 by decide), if_neg (show ¬ (16 : Int32) = 9 by decide), if_neg (show ¬ (16 : Int32) = 10 by decide), if_neg (show ¬ (16 : Int32) = 11 by decide), if_neg (show ¬ (16 : Int32) = 12 by decide), if_neg (show ¬ (16 : Int32) = 13 by decide), if_neg (show ¬ (16 : Int32) = 14 by decide), if_neg (show ¬ (16 : Int32) = 15 by decide), if_pos rfl]
  unfold fX10_guestsFittingAny
  rw [bsum (L := fun n a i => fX10_guestsFittingAny_4 μ (fun y => some y) n a i) (K := fun y => some y) A.T.nG (fun g => !(fitB A.T A.S g == 0)) (by omega)
    (by
      intro n i a hi
      have lt : fitB A.T A.S i < 128 := bs_lt7 _ (by omega)
      show fX10_guestsFittingAny_4 _ _ _ _ _ = _
      rw [fX10_guestsFittingAny_4, hc.T.nG, if_pos (nI_lt hi (by omega)), c_sundaysFitting hA hc hi, bind_s, nm_ap, nI_shl i (by omega), nI_1]
      by_cases c : fitB A.T A.S i = 0
      · rw [if_pos (by rw [c]; rfl), if_neg (by simp [c])]
      · rw [if_neg (nI_ne0 (by omega) (by omega)), if_pos (by simp [c])])
    (by
      intro n a
      show fX10_guestsFittingAny_4 _ _ _ _ _ = _
      rw [fX10_guestsFittingAny_4, hc.T.nG, if_neg (nI_nlt (by omega) (by omega))]), bind_s]
theorem r_count_16 {A : Abs} {μ : Mem} (hA : okA A) (hr : RInv A μ) : ∃ m, fX11_count 16 μ = some (nI (bs (fun g => !(fitB A.T A.S g == 0)) A.T.nG), m) := by
  have g7 := hA.T.g7
  have s4 := hA.T.s4
  have v1 := hA.lv
  obtain ⟨m, e1, e2, e3, _⟩ := r_copies hA hr
  have hx := e3.rX hA
  refine ⟨m, ?_⟩
  unfold fX11_count
  rw [e1, bind_s, if_neg (show ¬ (16 : Int32) = 0 by decide), if_neg (show ¬ (16 : Int32) = 1 by decide), if_neg (show ¬ (16 : Int32) = 2 by decide), if_neg (show ¬ (16 : Int32) = 3 by decide), if_neg (show ¬ (16 : Int32) = 4 by decide), if_neg (show ¬ (16 : Int32) = 5 by decide), if_neg (show ¬ (16 : Int32) = 6 by decide), if_neg (show ¬ (16 : Int32) = 7 by decide), if_neg (show ¬ (16 : Int32) = 8 by decide), if_neg (show ¬ (16 : Int32) = 9 by decide), if_neg (show ¬ (16 : Int32) = 10 by decide), if_neg (show ¬ (16 : Int32) = 11 by decide), if_neg (show ¬ (16 : Int32) = 12 by decide), if_neg (show ¬ (16 : Int32) = 13 by decide), if_neg (show ¬ (16 : Int32) = 14 by decide), if_neg (show ¬ (16 : Int32) = 15 by decide), if_pos rfl]
  refine Eq.trans (bsum (L := fun n a i => fX11_count_385 m (fun y => some (y, m)) n a i) (K := fun y => some (y, m)) A.T.nG (fun g => !(fitB A.T A.S g == 0)) (by omega)
    (by
      intro n i a hi
      have lt : fitB A.T A.S i < 128 := bs_lt7 _ (by omega)
      show fX11_count_385 _ _ _ _ _ = _
      rw [fX11_count_385, hx.1, if_pos (show inb (nI A.lv) 2 from inbN (by omega) (by omega)), nI_clamp (n := A.lv) (by omega), hx.2.2.2.nG, if_pos (nI_lt hi (by omega)), r_fitBits hx e2 hi, bind_s, nm_ap, nI_shl i (by omega), nI_1]
      by_cases c : fitB A.T A.S i = 0
      · rw [if_pos (by rw [c]; rfl), if_neg (by simp [c])]
      · rw [if_neg (nI_ne0 (by omega) (by omega)), if_pos (by simp [c])])
    (by
      intro n a
      show fX11_count_385 _ _ _ _ _ = _
      rw [fX11_count_385, hx.1, if_pos (show inb (nI A.lv) 2 from inbN (by omega) (by omega)), nI_clamp (n := A.lv) (by omega), hx.2.2.2.nG, if_neg (nI_nlt (by omega) (by omega))])) ?_
  rfl
theorem c_count_17 {A : Abs} {μ : Mem} (hA : okA A) (hc : CInv A μ) : ∃ m, fX10_count 17 μ = some (smv (fun s => if A.S.sd s = true then 0 else nI (A.T.lo s)) A.T.nS, m) := by
  have g7 := hA.T.g7
  have s4 := hA.T.s4
  refine ⟨μ, ?_⟩
  unfold fX10_count
  rw [if_neg (show ¬ (17 : Int32) = 0 by decide), if_neg (show ¬ (17 : Int32) = 1 by decide), if_neg (show ¬ (17 : Int32) = 2 by decide), if_neg (show ¬ (17 : Int32) = 3 by decide), if_neg (show ¬ (17 : Int32) = 4 by decide), if_neg (show ¬ (17 : Int32) = 5 by decide), if_neg (show ¬ (17 : Int32) = 6 by decide), if_neg (show ¬ (17 : Int32) = 7 by decide), if_neg (show ¬ (17 : Int32) = 8 by decide), if_neg (show ¬ (17 : Int32) = 9 by decide), if_neg (show ¬ (17 : Int32) = 10 by decide), if_neg (show ¬ (17 : Int32) = 11 by decide), if_neg (show ¬ (17 : Int32) = 12 by decide), if_neg (show ¬ (17 : Int32) = 13 by decide), if_neg (show ¬ (17 : Int32) = 14 by decide), if_neg (show ¬ (17 : Int32) = 15 by decide), if_neg (show ¬ (17 : Int32) = 16 by decide), if_pos rfl]
  unfold fX10_hoursNotSold
  rw [lsum (L := fun n a i => fX10_hoursNotSold_4 μ (fun y => some y) n a i) (K := fun y => some y) A.T.nS (fun s => if A.S.sd s = true then 0 else nI (A.T.lo s)) (by omega)
    (by
      intro n i a hi
      have hb : inb (nI i) 4 := inbN (by omega) (by omega)
      have hcl : (nI i).toNatClampNeg = i := nI_clamp (by omega)
      show fX10_hoursNotSold_4 _ _ _ _ _ = _
      rw [fX10_hoursNotSold_4, hc.T.nS, if_pos (nI_lt hi (by omega)), c_isSold hc.S (by omega), bind_s]
      simp only [if_pos hb, hcl, nm_ap]
      rw [show μ.1 200 i = _ from hc.T.lo i hi, nI_1]
      cases A.S.sd i with
      | true => rw [if_pos rfl, if_pos rfl, ad0]
      | false => rw [if_neg (by decide), if_neg (by decide)])
    (by
      intro n a
      show fX10_hoursNotSold_4 _ _ _ _ _ = _
      rw [fX10_hoursNotSold_4, hc.T.nS, if_neg (nI_nlt (by omega) (by omega))]), bind_s]
theorem r_count_17 {A : Abs} {μ : Mem} (hA : okA A) (hr : RInv A μ) : ∃ m, fX11_count 17 μ = some (smv (fun s => if A.S.sd s = true then 0 else nI (A.T.lo s)) A.T.nS, m) := by
  have g7 := hA.T.g7
  have s4 := hA.T.s4
  have v1 := hA.lv
  obtain ⟨m, e1, e2, e3, _⟩ := r_copies hA hr
  have hx := e3.rX hA
  refine ⟨m, ?_⟩
  unfold fX11_count
  rw [e1, bind_s, if_neg (show ¬ (17 : Int32) = 0 by decide), if_neg (show ¬ (17 : Int32) = 1 by decide), if_neg (show ¬ (17 : Int32) = 2 by decide), if_neg (show ¬ (17 : Int32) = 3 by decide), if_neg (show ¬ (17 : Int32) = 4 by decide), if_neg (show ¬ (17 : Int32) = 5 by decide), if_neg (show ¬ (17 : Int32) = 6 by decide), if_neg (show ¬ (17 : Int32) = 7 by decide), if_neg (show ¬ (17 : Int32) = 8 by decide), if_neg (show ¬ (17 : Int32) = 9 by decide), if_neg (show ¬ (17 : Int32) = 10 by decide), if_neg (show ¬ (17 : Int32) = 11 by decide), if_neg (show ¬ (17 : Int32) = 12 by decide), if_neg (show ¬ (17 : Int32) = 13 by decide), if_neg (show ¬ (17 : Int32) = 14 by decide), if_neg (show ¬ (17 : Int32) = 15 by decide), if_neg (show ¬ (17 : Int32) = 16 by decide), if_pos rfl]
  refine Eq.trans (lsum (L := fun n a i => fX11_count_422 m (fun y => some (y, m)) n a i) (K := fun y => some (y, m)) A.T.nS (fun s => if A.S.sd s = true then 0 else nI (A.T.lo s)) (by omega)
    (by
      intro n i a hi
      have b2 : inb (nI (25 + i)) 31 := inbN (by omega) (by omega)
      have c2 : (nI (25 + i)).toNatClampNeg = 25 + i := nI_clamp (by omega)
      have a2 : (25 : Int32) + nI i = nI (25 + i) := by rw [L_25, nI_add]
      have q := e2.sd i (by omega)
      rw [Nat.zero_add] at q
      have b4 : inb (nI (4 * A.lv + i)) 8 := inbN (by omega) (by omega)
      have c4 : (nI (4 * A.lv + i)).toNatClampNeg = 4 * A.lv + i := nI_clamp (by omega)
      show fX11_count_422 _ _ _ _ _ = _
      rw [fX11_count_422, hx.1, if_pos (show inb (nI A.lv) 2 from inbN (by omega) (by omega)), nI_clamp (n := A.lv) (by omega), hx.2.2.2.nS, if_pos (nI_lt hi (by omega)), ix4]
      simp only [a2, if_pos b2, c2, if_pos b4, c4, nm_ap]
      rw [q, hx.2.2.2.lo i hi, nI_1]
      cases A.S.sd i with
      | true => rw [if_neg (by decide), if_pos rfl, ad0]
      | false => rw [if_pos (by decide), if_neg (by decide)])
    (by
      intro n a
      show fX11_count_422 _ _ _ _ _ = _
      rw [fX11_count_422, hx.1, if_pos (show inb (nI A.lv) 2 from inbN (by omega) (by omega)), nI_clamp (n := A.lv) (by omega), hx.2.2.2.nS, if_neg (nI_nlt (by omega) (by omega))])) ?_
  rfl
theorem c_count_18 {A : Abs} {μ : Mem} (hA : okA A) (hc : CInv A μ) : ∃ m, fX10_count 18 μ = some (smv (fun g => if A.S.dd g = true then 0 else nI (A.T.fe g)) A.T.nG, m) := by
  have g7 := hA.T.g7
  have s4 := hA.T.s4
  refine ⟨μ, ?_⟩
  unfold fX10_count
  rw [if_neg (show ¬ (18 : Int32) = 0 by decide), if_neg (show ¬ (18 : Int32) = 1 by decide), if_neg (show ¬ (18 : Int32) = 2 by decide), if_neg (show ¬ (18 : Int32) = 3 by decide), if_neg (show ¬ (18 : Int32) = 4 by decide), if_neg (show ¬ (18 : Int32) = 5 by decide), if_neg (show ¬ (18 : Int32) = 6 by decide), if_neg (show ¬ (18 : Int32) = 7 by decide), if_neg (show ¬ (18 : Int32) = 8 by decide), if_neg (show ¬ (18 : Int32) = 9 by decide), if_neg (show ¬ (18 : Int32) = 10 by decide), if_neg (show ¬ (18 : Int32) = 11 by decide), if_neg (show ¬ (18 : Int32) = 12 by decide), if_neg (show ¬ (18 : Int32) = 13 by decide), if_neg (show ¬ (18 : Int32) = 14 by decide), if_neg (show ¬ (18 : Int32) = 15 by decide), if_neg (show ¬ (18 : Int32) = 16 by decide), if_neg (show ¬ (18 : Int32) = 17 by decide), if_pos rfl]
  unfold fX10_feesOfLiving
  rw [lsum (L := fun n a i => fX10_feesOfLiving_4 μ (fun y => some y) n a i) (K := fun y => some y) A.T.nG (fun g => if A.S.dd g = true then 0 else nI (A.T.fe g)) (by omega)
    (by
      intro n i a hi
      have hb : inb (nI i) 7 := inbN (by omega) (by omega)
      have hcl : (nI i).toNatClampNeg = i := nI_clamp (by omega)
      show fX10_feesOfLiving_4 _ _ _ _ _ = _
      rw [fX10_feesOfLiving_4, hc.T.nG, if_pos (nI_lt hi (by omega)), c_isDead hc.S (by omega), bind_s]
      simp only [if_pos hb, hcl, nm_ap]
      rw [show μ.1 204 i = _ from hc.T.fe i hi, nI_1]
      cases A.S.dd i with
      | true => rw [if_pos rfl, if_pos rfl, ad0]
      | false => rw [if_neg (by decide), if_neg (by decide)])
    (by
      intro n a
      show fX10_feesOfLiving_4 _ _ _ _ _ = _
      rw [fX10_feesOfLiving_4, hc.T.nG, if_neg (nI_nlt (by omega) (by omega))]), bind_s]
theorem r_count_18 {A : Abs} {μ : Mem} (hA : okA A) (hr : RInv A μ) : ∃ m, fX11_count 18 μ = some (smv (fun g => if A.S.dd g = true then 0 else nI (A.T.fe g)) A.T.nG, m) := by
  have g7 := hA.T.g7
  have s4 := hA.T.s4
  have v1 := hA.lv
  obtain ⟨m, e1, e2, e3, _⟩ := r_copies hA hr
  have hx := e3.rX hA
  refine ⟨m, ?_⟩
  unfold fX11_count
  rw [e1, bind_s, if_neg (show ¬ (18 : Int32) = 0 by decide), if_neg (show ¬ (18 : Int32) = 1 by decide), if_neg (show ¬ (18 : Int32) = 2 by decide), if_neg (show ¬ (18 : Int32) = 3 by decide), if_neg (show ¬ (18 : Int32) = 4 by decide), if_neg (show ¬ (18 : Int32) = 5 by decide), if_neg (show ¬ (18 : Int32) = 6 by decide), if_neg (show ¬ (18 : Int32) = 7 by decide), if_neg (show ¬ (18 : Int32) = 8 by decide), if_neg (show ¬ (18 : Int32) = 9 by decide), if_neg (show ¬ (18 : Int32) = 10 by decide), if_neg (show ¬ (18 : Int32) = 11 by decide), if_neg (show ¬ (18 : Int32) = 12 by decide), if_neg (show ¬ (18 : Int32) = 13 by decide), if_neg (show ¬ (18 : Int32) = 14 by decide), if_neg (show ¬ (18 : Int32) = 15 by decide), if_neg (show ¬ (18 : Int32) = 16 by decide), if_neg (show ¬ (18 : Int32) = 17 by decide), if_pos rfl]
  refine Eq.trans (lsum (L := fun n a i => fX11_count_473 m (fun y => some (y, m)) n a i) (K := fun y => some (y, m)) A.T.nG (fun g => if A.S.dd g = true then 0 else nI (A.T.fe g)) (by omega)
    (by
      intro n i a hi
      have b2 : inb (nI (14 + i)) 31 := inbN (by omega) (by omega)
      have c2 : (nI (14 + i)).toNatClampNeg = 14 + i := nI_clamp (by omega)
      have a2 : (14 : Int32) + nI i = nI (14 + i) := by rw [L_14, nI_add]
      have q := e2.dd i (by omega)
      rw [Nat.zero_add] at q
      have b4 : inb (nI (7 * A.lv + i)) 14 := inbN (by omega) (by omega)
      have c4 : (nI (7 * A.lv + i)).toNatClampNeg = 7 * A.lv + i := nI_clamp (by omega)
      show fX11_count_473 _ _ _ _ _ = _
      rw [fX11_count_473, hx.1, if_pos (show inb (nI A.lv) 2 from inbN (by omega) (by omega)), nI_clamp (n := A.lv) (by omega), hx.2.2.2.nG, if_pos (nI_lt hi (by omega)), ix7]
      simp only [a2, if_pos b2, c2, if_pos b4, c4, nm_ap]
      rw [q, hx.2.2.2.fe i hi, nI_1]
      cases A.S.dd i with
      | true => rw [if_neg (by decide), if_pos rfl, ad0]
      | false => rw [if_pos (by decide), if_neg (by decide)])
    (by
      intro n a
      show fX11_count_473 _ _ _ _ _ = _
      rw [fX11_count_473, hx.1, if_pos (show inb (nI A.lv) 2 from inbN (by omega) (by omega)), nI_clamp (n := A.lv) (by omega), hx.2.2.2.nG, if_neg (nI_nlt (by omega) (by omega))])) ?_
  rfl
theorem sp_count : st_count Inv := by
  intro μ a1 ⟨A, hA, hc, hr⟩
  by_cases k0 : a1 = 0
  · subst k0
    exact qmm hA hc hr (F := fX10_count 0) (G := fX11_count 0) _ (c_count_0 hA hc) (fun μ' hr' => r_count_0 hA hr') (frX10_count _ μ) (frX11_count _) (by decide) (by decide) (by decide) (by decide)
  by_cases k1 : a1 = 1
  · subst k1
    exact qmm hA hc hr (F := fX10_count 1) (G := fX11_count 1) _ (c_count_1 hA hc) (fun μ' hr' => r_count_1 hA hr') (frX10_count _ μ) (frX11_count _) (by decide) (by decide) (by decide) (by decide)
  by_cases k2 : a1 = 2
  · subst k2
    exact qmm hA hc hr (F := fX10_count 2) (G := fX11_count 2) _ (c_count_2 hA hc) (fun μ' hr' => r_count_2 hA hr') (frX10_count _ μ) (frX11_count _) (by decide) (by decide) (by decide) (by decide)
  by_cases k3 : a1 = 3
  · subst k3
    exact qmm hA hc hr (F := fX10_count 3) (G := fX11_count 3) _ (c_count_3 hA hc) (fun μ' hr' => r_count_3 hA hr') (frX10_count _ μ) (frX11_count _) (by decide) (by decide) (by decide) (by decide)
  by_cases k4 : a1 = 4
  · subst k4
    exact qmm hA hc hr (F := fX10_count 4) (G := fX11_count 4) _ (c_count_4 hA hc) (fun μ' hr' => r_count_4 hA hr') (frX10_count _ μ) (frX11_count _) (by decide) (by decide) (by decide) (by decide)
  by_cases k5 : a1 = 5
  · subst k5
    exact qmm hA hc hr (F := fX10_count 5) (G := fX11_count 5) _ (c_count_5 hA hc) (fun μ' hr' => r_count_5 hA hr') (frX10_count _ μ) (frX11_count _) (by decide) (by decide) (by decide) (by decide)
  by_cases k6 : a1 = 6
  · subst k6
    exact qmm hA hc hr (F := fX10_count 6) (G := fX11_count 6) _ (c_count_6 hA hc) (fun μ' hr' => r_count_6 hA hr') (frX10_count _ μ) (frX11_count _) (by decide) (by decide) (by decide) (by decide)
  by_cases k7 : a1 = 7
  · subst k7
    exact qmm hA hc hr (F := fX10_count 7) (G := fX11_count 7) _ (c_count_7 hA hc) (fun μ' hr' => r_count_7 hA hr') (frX10_count _ μ) (frX11_count _) (by decide) (by decide) (by decide) (by decide)
  by_cases k8 : a1 = 8
  · subst k8
    exact qmm hA hc hr (F := fX10_count 8) (G := fX11_count 8) _ (c_count_8 hA hc) (fun μ' hr' => r_count_8 hA hr') (frX10_count _ μ) (frX11_count _) (by decide) (by decide) (by decide) (by decide)
  by_cases k9 : a1 = 9
  · subst k9
    exact qmm hA hc hr (F := fX10_count 9) (G := fX11_count 9) _ (c_count_9 hA hc) (fun μ' hr' => r_count_9 hA hr') (frX10_count _ μ) (frX11_count _) (by decide) (by decide) (by decide) (by decide)
  by_cases k10 : a1 = 10
  · subst k10
    exact qmm hA hc hr (F := fX10_count 10) (G := fX11_count 10) _ (c_count_10 hA hc) (fun μ' hr' => r_count_10 hA hr') (frX10_count _ μ) (frX11_count _) (by decide) (by decide) (by decide) (by decide)
  by_cases k11 : a1 = 11
  · subst k11
    exact qmm hA hc hr (F := fX10_count 11) (G := fX11_count 11) _ (c_count_11 hA hc) (fun μ' hr' => r_count_11 hA hr') (frX10_count _ μ) (frX11_count _) (by decide) (by decide) (by decide) (by decide)
  by_cases k12 : a1 = 12
  · subst k12
    exact qmm hA hc hr (F := fX10_count 12) (G := fX11_count 12) _ (c_count_12 hA hc) (fun μ' hr' => r_count_12 hA hr') (frX10_count _ μ) (frX11_count _) (by decide) (by decide) (by decide) (by decide)
  by_cases k13 : a1 = 13
  · subst k13
    exact qmm hA hc hr (F := fX10_count 13) (G := fX11_count 13) _ (c_count_13 hA hc) (fun μ' hr' => r_count_13 hA hr') (frX10_count _ μ) (frX11_count _) (by decide) (by decide) (by decide) (by decide)
  by_cases k14 : a1 = 14
  · subst k14
    exact qmm hA hc hr (F := fX10_count 14) (G := fX11_count 14) _ (c_count_14 hA hc) (fun μ' hr' => r_count_14 hA hr') (frX10_count _ μ) (frX11_count _) (by decide) (by decide) (by decide) (by decide)
  by_cases k15 : a1 = 15
  · subst k15
    exact qmm hA hc hr (F := fX10_count 15) (G := fX11_count 15) _ (c_count_15 hA hc) (fun μ' hr' => r_count_15 hA hr') (frX10_count _ μ) (frX11_count _) (by decide) (by decide) (by decide) (by decide)
  by_cases k16 : a1 = 16
  · subst k16
    exact qmm hA hc hr (F := fX10_count 16) (G := fX11_count 16) _ (c_count_16 hA hc) (fun μ' hr' => r_count_16 hA hr') (frX10_count _ μ) (frX11_count _) (by decide) (by decide) (by decide) (by decide)
  by_cases k17 : a1 = 17
  · subst k17
    exact qmm hA hc hr (F := fX10_count 17) (G := fX11_count 17) _ (c_count_17 hA hc) (fun μ' hr' => r_count_17 hA hr') (frX10_count _ μ) (frX11_count _) (by decide) (by decide) (by decide) (by decide)
  by_cases k18 : a1 = 18
  · subst k18
    exact qmm hA hc hr (F := fX10_count 18) (G := fX11_count 18) _ (c_count_18 hA hc) (fun μ' hr' => r_count_18 hA hr') (frX10_count _ μ) (frX11_count _) (by decide) (by decide) (by decide) (by decide)
  refine qmm hA hc hr (F := fX10_count a1) (G := fX11_count a1) (-1) ⟨μ, ?_⟩ (fun μ' hr' => ?_) (frX10_count _ μ) (frX11_count _) (by decide) (by decide) (by decide) (by decide)
  · unfold fX10_count
    rw [if_neg k0, if_neg k1, if_neg k2, if_neg k3, if_neg k4, if_neg k5, if_neg k6, if_neg k7, if_neg k8, if_neg k9, if_neg k10, if_neg k11, if_neg k12, if_neg k13, if_neg k14, if_neg k15, if_neg k16, if_neg k17, if_neg k18]
  · obtain ⟨m, e1, e2, e3, _⟩ := r_copies hA hr'
    refine ⟨m, ?_⟩
    unfold fX11_count
    rw [e1, bind_s, if_neg k0, if_neg k1, if_neg k2, if_neg k3, if_neg k4, if_neg k5, if_neg k6, if_neg k7, if_neg k8, if_neg k9, if_neg k10, if_neg k11, if_neg k12, if_neg k13, if_neg k14, if_neg k15, if_neg k16, if_neg k17, if_neg k18]
