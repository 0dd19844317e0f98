/-! ===== the component finds who clashes ===== -/
def cGu (T : Txt) (m : Mem) : Prop := m.1 215 3 = nI T.nG ∧ ∀ g, g < T.nG → m.1 218 g = nI (T.hr g) ∧ m.1 219 g = nI (T.hs g) ∧ m.1 228 g = nI (bs (T.fo g) 7)
abbrev WF : CellL := WX7_findClashes 215
theorem cGu.fr {T : Txt} {m m' : Mem} (h : cGu T m) (f : Fr WF m m') : cGu T m' := by
  have k : ∀ a j, ¬ (225 ≤ a ∧ a ≤ 227) → m'.1 a j = m.1 a j := fun a j ha => (f a j (by simp [WF, WX7_findClashes, inW]; omega)).1
  refine ⟨by rw [k _ _ (by omega)]; exact h.1, fun g hg => ?_⟩
  rw [k _ _ (by omega), k _ _ (by omega), k _ _ (by omega)]
  exact h.2 g hg
theorem spn_all : ∀ a, a < 13 → ∀ c, c < 24 → lsh (lsh (1 : Int64) (nI a) - 1) (nI c) = lN ((2 ^ a - 1) * 2 ^ c) := by decide +kernel
theorem c_spans {T : Txt} {m : Mem} (hT : okT T) (h : cGu T m) (Kc : Mem → Option Mem) : ∃ m', fX7_findClashes_2 215 Kc FU 0 m = Kc m' ∧ Fr WF m m' ∧ ∀ g, g < T.nG → m'.2 226 g = lN (spn T g) := by
  have g7 := hT.g7
  refine lupX (L := fun n v m => fX7_findClashes_2 215 Kc n v m) (K := Kc) T.nG (fun i m' => Fr WF m m' ∧ ∀ g, g < i → m'.2 226 g = lN (spn T g)) (by omega) ⟨Fr.rfl, fun g hg => by omega⟩ ?_ ?_
  · intro n i a hi ⟨f, k⟩
    have hb : inb (nI i) 7 := inbN (by omega) (by omega)
    have hcl : (nI i).toNatClampNeg = i := nI_clamp (by omega)
    have q := h.fr f
    have gg := hT.gu i hi
    have e : lsh (lsh (1 : Int64) (a.1 219 i) - 1) (a.1 218 i) = lN (spn T i) := by
      rw [(q.2 i hi).1, (q.2 i hi).2.1]
      exact spn_all _ (by omega) _ (by omega)
    refine ⟨wJ a 226 i (lN (spn T i)), ?_, f.wJ (by simp [WF, WX7_findClashes, inW]), fun g hg => ?_⟩
    · show fX7_findClashes_2 215 Kc (n + 1) (nI i) a = _
      rw [fX7_findClashes_2, q.1, if_pos (nI_lt hi (by omega))]
      simp only [if_pos hb, hcl, nm_ap, show (215 : Nat) + 11 = 226 from rfl, show (215 : Nat) + 4 = 219 from rfl, show (215 : Nat) + 3 = 218 from rfl, e, nI_1]
    · rw [wJ_l]
      by_cases c : g = i
      · rw [if_pos ⟨rfl, c⟩, c]
      · rw [if_neg (by omega)]; exact k g (by omega)
  · intro n a ⟨f, k⟩
    show fX7_findClashes_2 215 Kc (n + 1) (nI T.nG) a = _
    rw [fX7_findClashes_2, (h.fr f).1, if_neg (nI_nlt (by omega) (by omega))]
def ov (T : Txt) (g o : Nat) : Bool := !(g == o) && (decide (T.hr g < T.hr o + T.hs o) && decide (T.hr o < T.hr g + T.hs g))
def ovA (T : Txt) (g i : Nat) : Nat := bs (fun o => T.fo g o || (decide (o < i) && ov T g o)) 7
theorem ovA_0 (T : Txt) (g : Nat) : ovA T g 0 = bs (T.fo g) 7 := bs_ext (fun o _ => by rw [decide_eq_false (Nat.not_lt_zero o), Bool.false_and, Bool.or_false])
theorem ovA_t {T : Txt} {g i : Nat} (hi : i < 7) (h : ov T g i = true) : ovA T g i ||| 2 ^ i = ovA T g (i + 1) := by
  unfold ovA
  rw [bs_set hi]
  refine bs_ext (fun x _ => ?_)
  by_cases c : x = i
  · subst c
    rw [h, decide_eq_true (show x < x + 1 by omega), beq_self_eq_true]
    cases T.fo g x <;> rfl
  · rw [beq_eq_false_iff_ne.2 c, Bool.false_or]
    have : decide (x < i) = decide (x < i + 1) := by
      by_cases d : x < i
      · rw [decide_eq_true d, decide_eq_true (show x < i + 1 by omega)]
      · rw [decide_eq_false d, decide_eq_false (show ¬ x < i + 1 by omega)]
    rw [this]
theorem ovA_f {T : Txt} {g i : Nat} (h : ov T g i = false) : ovA T g i = ovA T g (i + 1) := by
  unfold ovA
  refine bs_ext (fun x _ => ?_)
  by_cases c : x = i
  · subst c
    rw [h, Bool.and_false, Bool.and_false]
  · have : decide (x < i) = decide (x < i + 1) := by
      by_cases d : x < i
      · rw [decide_eq_true d, decide_eq_true (show x < i + 1 by omega)]
      · rw [decide_eq_false d, decide_eq_false (show ¬ x < i + 1 by omega)]
    rw [this]
theorem ovA_e {T : Txt} (hT : okT T) {g : Nat} : ovA T g T.nG = clB T g := by
  have g7 := hT.g7
  unfold ovA clB
  apply eq_bits (n := 7) (bs_lt _ _) (Nat.lt_of_lt_of_le (bs_lt _ _) (Nat.pow_le_pow_right (by decide) g7))
  intro o ho
  rw [bs_bit, bs_bit, decide_eq_true ho, Bool.true_and]
  by_cases c : o < T.nG
  · rw [decide_eq_true c, Bool.true_and, Bool.true_and]
    unfold clash ov
    by_cases d : g = o
    · subst d
      rw [hT.fi g, beq_self_eq_true]; rfl
    · rw [beq_eq_false_iff_ne.2 d]
      cases T.fo g o <;> rfl
  · rw [decide_eq_false c, Bool.false_and, Bool.false_and, Bool.or_false]
    cases e : T.fo g o with
    | false => rfl
    | true =>
      rw [hT.fs] at e
      exact absurd (hT.fg o g e) c
theorem spn_and {T : Txt} (hT : okT T) {g o : Nat} (hg : g < T.nG) (ho : o < T.nG) (ne : g ≠ o) : (lN (spn T g) &&& lN (spn T o) = 0) ↔ ov T g o = false := by
  have b1 := spn_lt hT hg
  have lt : spn T g &&& spn T o < 2 ^ 64 := Nat.lt_of_le_of_lt Nat.and_le_left (Nat.lt_trans b1 (by decide))
  have z : (lN (spn T g &&& spn T o) = 0) ↔ spn T g &&& spn T o = 0 := by
    constructor
    · intro e
      have := congrArg (fun x : Int64 => x.toBitVec.toNat) e
      simp only [lN_bv] at this
      rw [BitVec.toNat_ofNat, Nat.mod_eq_of_lt lt] at this
      exact this
    · intro e; rw [e]; rfl
  have gg := hT.gu g hg
  have og := hT.gu o ho
  rw [lN_and, z]
  have hne : (g == o) = false := beq_eq_false_iff_ne.2 ne
  constructor
  · intro e
    cases c : ov T g o with
    | false => rfl
    | true =>
      unfold ov at c
      rw [hne] at c
      simp only [Bool.not_false, Bool.true_and, Bool.and_eq_true, decide_eq_true_eq] at c
      have bit : (spn T g &&& spn T o).testBit (max (T.hr g) (T.hr o)) = true := by
        rw [Nat.testBit_and, spn_bit, spn_bit]
        unfold isTh
        simp only [Bool.and_eq_true, decide_eq_true_eq]
        omega
      rw [e] at bit
      simp at bit
  · intro c
    unfold ov at c
    rw [hne] at c
    apply Nat.eq_of_testBit_eq
    intro i
    rw [Nat.testBit_and, spn_bit, spn_bit, Nat.zero_testBit]
    unfold isTh
    simp only [Bool.not_false, Bool.true_and] at c
    rw [Bool.and_eq_false_iff] at c
    simp only [decide_eq_false_iff_not] at c
    rw [← Bool.not_eq_true]
    simp only [Bool.and_eq_true, decide_eq_true_eq]
    omega
theorem c_clash1 {T : Txt} {m : Mem} {g : Nat} (hT : okT T) (h : cGu T m) (hs : ∀ g, g < T.nG → m.2 226 g = lN (spn T g)) (hg : g < T.nG) (h0 : m.1 225 g = nI (bs (T.fo g) 7)) (Kc : Mem → Option Mem) : ∃ m', fX7_findClashes_63 215 (nI g) Kc FU 0 m = Kc m' ∧ Fr WF m m' ∧ (∀ a j, m'.2 a j = m.2 a j) ∧ (∀ x, x ≠ g → m'.1 225 x = m.1 225 x) ∧ m'.1 225 g = nI (ovA T g T.nG) := by
  have g7 := hT.g7
  have gb : inb (nI g) 7 := inbN (by omega) (by omega)
  have gcl : (nI g).toNatClampNeg = g := nI_clamp (by omega)
  refine lupX (L := fun n v m => fX7_findClashes_63 215 (nI g) Kc n v m) (K := Kc) T.nG (fun i m' => Fr WF m m' ∧ (∀ a j, m'.2 a j = m.2 a j) ∧ (∀ x, x ≠ g → m'.1 225 x = m.1 225 x) ∧ m'.1 225 g = nI (ovA T g i)) (by omega) ⟨Fr.rfl, fun _ _ => rfl, fun _ _ => rfl, by rw [ovA_0]; exact h0⟩ ?_ ?_
  · intro n i a hi ⟨f, k1, k2, k3⟩
    have hb : inb (nI i) 7 := inbN (by omega) (by omega)
    have hcl : (nI i).toNatClampNeg = i := nI_clamp (by omega)
    have q := h.fr f
    show ∃ b, fX7_findClashes_63 215 (nI g) Kc (n + 1) (nI i) a = fX7_findClashes_63 215 (nI g) Kc n (nI (i + 1)) b ∧ _
    rw [fX7_findClashes_63, q.1, if_pos (nI_lt hi (by omega))]
    by_cases c : i = g
    · have o0 : ov T g i = false := by unfold ov; rw [c, beq_self_eq_true]; rfl
      rw [if_pos (by rw [c]), nI_1]
      exact ⟨a, rfl, f, k1, k2, by rw [← ovA_f o0]; exact k3⟩
    · rw [if_neg (fun z => c ((nI_eq (by omega) (by omega)).1 z))]
      simp only [if_pos gb, if_pos hb, gcl, hcl, show (215 : Nat) + 11 = 226 from rfl, show (215 : Nat) + 10 = 225 from rfl]
      rw [k1, k1, hs g hg, hs i hi, nI_1]
      cases o : ov T g i with
      | false =>
        rw [if_pos ((spn_and hT hg hi (fun z => c z.symm)).2 o)]
        exact ⟨a, rfl, f, k1, k2, by rw [← ovA_f o]; exact k3⟩
      | true =>
        rw [if_neg (fun z => by rw [(spn_and hT hg hi (fun z => c z.symm)).1 z] at o; cases o), k3, nI_shl i (by omega), nI_or, ovA_t (by omega) o, nm_ap]
        refine ⟨_, rfl, f.wI (by simp [WF, WX7_findClashes, inW]), fun x j => k1 x j, fun x hx => by rw [wI_i, if_neg (by omega)]; exact k2 x hx, by rw [wI_i, if_pos ⟨rfl, rfl⟩]⟩
  · intro n a ⟨f, k1, k2, k3⟩
    show fX7_findClashes_63 215 (nI g) Kc (n + 1) (nI T.nG) a = _
    rw [fX7_findClashes_63, (h.fr f).1, if_neg (nI_nlt (by omega) (by omega))]
theorem c_clashes {T : Txt} {m : Mem} (hT : okT T) (h : cGu T m) (hs : ∀ g, g < T.nG → m.2 226 g = lN (spn T g)) (Kc : Mem → Option Mem) : ∃ m', fX7_findClashes_41 215 Kc FU 0 m = Kc m' ∧ Fr WF m m' ∧ (∀ a j, m'.2 a j = m.2 a j) ∧ (∀ x, x < T.nG → m'.1 225 x = nI (clB T x)) := by
  have g7 := hT.g7
  refine lupX (L := fun n v m => fX7_findClashes_41 215 Kc n v m) (K := Kc) T.nG (fun i m' => Fr WF m m' ∧ (∀ a j, m'.2 a j = m.2 a j) ∧ (∀ x, x < i → m'.1 225 x = nI (clB T x))) (by omega) ⟨Fr.rfl, fun _ _ => rfl, fun x hx => by omega⟩ ?_ ?_
  · intro n i a hi ⟨f, k1, k2⟩
    have hb : inb (nI i) 7 := inbN (by omega) (by omega)
    have hcl : (nI i).toNatClampNeg = i := nI_clamp (by omega)
    have q := h.fr f
    have fw : Fr WF m (wI a 225 i (nI (bs (T.fo i) 7))) := f.wI (by simp [WF, WX7_findClashes, inW])
    obtain ⟨b, e, f2, j1, j2, j3⟩ := c_clash1 (m := wI a 225 i (nI (bs (T.fo i) 7))) hT (h.fr fw) (fun g hg => (k1 226 g).trans (hs g hg)) hi (by rw [wI_i, if_pos ⟨rfl, rfl⟩]) (fun μ5 => fX7_findClashes_41 215 Kc n (nI i + 1) μ5)
    refine ⟨b, ?_, fw.trans f2, fun x j => (j1 x j).trans (k1 x j), fun x hx => ?_⟩
    · show fX7_findClashes_41 215 Kc (n + 1) (nI i) a = _
      rw [fX7_findClashes_41, q.1, if_pos (nI_lt hi (by omega))]
      simp only [if_pos hb, hcl, nm_ap, show (215 : Nat) + 13 = 228 from rfl, show (215 : Nat) + 10 = 225 from rfl]
      rw [(q.2 i hi).2.2, e, nI_1]
    · by_cases c : x = i
      · rw [c, j3, ovA_e hT]
      · rw [j2 x c, wI_i, if_neg (by omega)]; exact k2 x (by omega)
  · intro n a ⟨f, k1, k2⟩
    show fX7_findClashes_41 215 Kc (n + 1) (nI T.nG) a = _
    rw [fX7_findClashes_41, (h.fr f).1, if_neg (nI_nlt (by omega) (by omega))]
theorem c_isPeace {T : Txt} {μ : Mem} (hT : okT T) (h : cGu T μ) (hc : ∀ x, x < T.nG → μ.1 225 x = nI (clB T x)) {m : Nat} (hm : m < 128) : fX7_isPeaceful 215 (nI m) μ = some (cmB T m) := by
  have g7 := hT.g7
  unfold fX7_isPeaceful
  have step : ∀ n i, i < T.nG → fX7_isPeaceful_2 215 (nI m) μ (fun _ => some true) (n + 1) (nI i) = if cmg T m i = true then some false else fX7_isPeaceful_2 215 (nI m) μ (fun _ => some true) n (nI (i + 1)) := by
    intro n i hi
    have lt : m &&& clB T i < 128 := and_lt hm
    have hb : inb (nI i) 7 := inbN (by omega) (by omega)
    have hcl : (nI i).toNatClampNeg = i := nI_clamp (by omega)
    rw [fX7_isPeaceful_2, h.1, if_pos (nI_lt hi (by omega)), nI_bit (by omega) (by omega)]
    simp only [if_pos hb, hcl, show (215 : Nat) + 10 = 225 from rfl]
    rw [hc i hi, nI_and, nI_1]
    unfold cmg
    cases c : m.testBit i with
    | true =>
      rw [if_pos (bit_one.2 c)]
      by_cases d : m &&& clB T i = 0
      · rw [if_pos (by rw [d]; rfl), if_neg (by simp [d])]
      · rw [if_neg (nI_ne0 (by omega) (by omega)), if_pos (by simp [d])]
    | false => rw [if_neg (fun q => by rw [bit_one.1 q] at c; cases c), if_neg (by simp)]
  rw [lfind (L := fun n i => fX7_isPeaceful_2 215 (nI m) μ (fun _ => some true) n i) (X := some true) T.nG (cmg T m) (fun _ => some false) (by omega)
    (by intro n i hi hp; show fX7_isPeaceful_2 _ _ _ _ _ _ = _; rw [step n i hi, if_pos hp])
    (by intro n i hi hp; show fX7_isPeaceful_2 _ _ _ _ _ _ = _; rw [step n i hi, if_neg (by rw [hp]; decide)])
    (by intro n; show fX7_isPeaceful_2 _ _ _ _ _ _ = _; rw [fX7_isPeaceful_2, h.1, if_neg (nI_nlt (by omega) (by omega))])]
  unfold cmB
  by_cases c : ffd (cmg T m) T.nG 0 < T.nG
  · rw [if_pos c]; simp [c]
  · rw [if_neg c]; simp [c]
theorem c_peace {T : Txt} {m : Mem} (hT : okT T) (h : cGu T m) (hc : ∀ x, x < T.nG → m.1 225 x = nI (clB T x)) (Kc : Mem → Option Mem) : ∃ m', fX7_findClashes_120 215 Kc FU 0 m = Kc m' ∧ Fr WF m m' ∧ (∀ a j, m'.2 a j = m.2 a j) ∧ (∀ j, m'.1 225 j = m.1 225 j) ∧ (∀ x, x < 2 ^ T.nG → m'.1 227 x = b2i (cmB T x)) := by
  have g7 := hT.g7
  have p7 : 2 ^ T.nG ≤ 128 := Nat.pow_le_pow_right (n := 2) (by decide) g7
  refine lupX (L := fun n v m => fX7_findClashes_120 215 Kc n v m) (K := Kc) (2 ^ T.nG) (fun i m' => Fr WF m m' ∧ (∀ a j, m'.2 a j = m.2 a j) ∧ (∀ j, m'.1 225 j = m.1 225 j) ∧ (∀ x, x < i → m'.1 227 x = b2i (cmB T x))) (by omega) ⟨Fr.rfl, fun _ _ => rfl, fun _ => rfl, fun x hx => by omega⟩ ?_ ?_
  · intro n i a hi ⟨f, k1, k2, k3⟩
    have hb : inb (nI i) 128 := inbN (by omega) (by omega)
    have hcl : (nI i).toNatClampNeg = i := nI_clamp (by omega)
    have q := h.fr f
    refine ⟨wI a 227 i (b2i (cmB T i)), ?_, f.wI (by simp [WF, WX7_findClashes, inW]), fun x j => k1 x j, fun j => by rw [wI_i, if_neg (by omega)]; exact k2 j, fun x hx => ?_⟩
    · show fX7_findClashes_120 215 Kc (n + 1) (nI i) a = _
      rw [fX7_findClashes_120, q.1, nI_shl _ (by omega), if_pos (nI_lt hi (by omega)), c_isPeace hT q (fun x hx => (k2 x).trans (hc x hx)) (by omega), bind_s]
      simp only [if_pos hb, hcl, nm_ap, show (215 : Nat) + 12 = 227 from rfl, b2i_and1, nI_1]
    · rw [wI_i]
      by_cases c : x = i
      · rw [if_pos ⟨rfl, c⟩, c]
      · rw [if_neg (by omega)]; exact k3 x (by omega)
  · intro n a ⟨f, k1, k2, k3⟩
    show fX7_findClashes_120 215 Kc (n + 1) (nI (2 ^ T.nG)) a = _
    rw [fX7_findClashes_120, (h.fr f).1, nI_shl _ (by omega), if_neg (nI_nlt (by omega) (by omega))]
theorem c_find {T : Txt} {m : Mem} (hT : okT T) (h : cGu T m) : ∃ m', fX7_findClashes 215 m = some m' ∧ Fr WF m m' ∧ (∀ x, x < T.nG → m'.1 225 x = nI (clB T x)) ∧ (∀ g, g < T.nG → m'.2 226 g = lN (spn T g)) ∧ (∀ x, x < 2 ^ T.nG → m'.1 227 x = b2i (cmB T x)) := by
  unfold fX7_findClashes
  obtain ⟨m1, e1, f1, a1⟩ := c_spans hT h (fun μ2 => fX7_findClashes_41 215 (fun μ6 => fX7_findClashes_120 215 (fun μ9 => some μ9) FU 0 μ6) FU 0 μ2)
  obtain ⟨m2, e2, f2, b1, b2⟩ := c_clashes hT (h.fr f1) a1 (fun μ6 => fX7_findClashes_120 215 (fun μ9 => some μ9) FU 0 μ6)
  obtain ⟨m3, e3, f3, c1, c2, c3⟩ := c_peace hT ((h.fr f1).fr f2) b2 (fun μ9 => some μ9)
  exact ⟨m3, e1.trans (e2.trans e3), (f1.trans f2).trans f3, fun x hx => (c2 x).trans (b2 x hx), fun g hg => (c1 226 g).trans ((b1 226 g).trans (a1 g hg)), c3⟩
/-- a text without a fault, as the component lays it -/
theorem c_text {K V : Nat → Nat} {N : Nat → List Nat} {P : Nat → Nat} {R : Rd} {m : Mem} {t e : Nat} (h : cRd K V N P R m t e) (hT : okT R.T) : ∃ m', fX7_findClashes 215 m = some m' ∧ Fr WF m m' ∧ cT 215 R.T m' := by
  have hG : cGu R.T m := ⟨h.nG, fun g hg => ⟨(h.gu g hg).1, (h.gu g hg).2.1, (h.gu g hg).2.2.2.1⟩⟩
  obtain ⟨m', e1, f, a1, a2, a3⟩ := c_find hT hG
  have k : ∀ a j, ¬ (225 ≤ a ∧ a ≤ 227) → m'.1 a j = m.1 a j := fun a j ha => (f a j (by simp [WF, WX7_findClashes, inW]; omega)).1
  obtain ⟨g1, g2, g3, g4, g5, g6⟩ := h.ps
  refine ⟨m', e1, f, by rw [k _ _ (by omega)]; exact h.nS, by rw [k _ _ (by omega)]; exact h.nG, fun s hs => by rw [k _ _ (by omega)]; exact (h.lo s hs).1, fun s hs => by rw [k _ _ (by omega)]; exact (h.lo s hs).2.1, fun g hg => by rw [k _ _ (by omega)]; exact (h.gu g hg).1, fun g hg => by rw [k _ _ (by omega)]; exact (h.gu g hg).2.1, fun g hg => by rw [k _ _ (by omega)]; exact (h.gu g hg).2.2.1, by rw [k _ _ (by omega)]; exact h.de, by rw [k _ _ (by omega)]; exact h.se, a1, a2, fun x hx => ?_, e, by omega, by rw [k _ _ (by omega)]; exact g5, fun j hj => ?_⟩
  · have z := a3 x hx
    cases c : cmB R.T x with
    | true => exact Or.inl ⟨by rw [z, c]; rfl, cmB_iff.1 c⟩
    | false => exact Or.inr ⟨by rw [z, c]; rfl, fun y => by rw [cmB_iff.2 y] at c; cases c⟩
  · obtain ⟨p, b1, b2⟩ := h.la j hj
    exact ⟨p, by rw [k _ _ (by omega)]; exact b1, cLaw_ext b2 (fun x _ _ => ⟨k _ _ (by omega), k _ _ (by omega)⟩)⟩
