/-! ===== read: the step ===== -/
theorem c_flt {A : Abs} {μ μ' : Mem} {p : Int32} (h : CInv A μ) (k : Ag (fun a j => cP a j ∧ a ≠ 1 ∧ a ≠ 2 ∧ a ≠ 3) μ μ') (hn : μ'.1 1 1 = 0) (hp : μ'.1 3 1 = p) : CInv (fltA A p) μ' := by
  have sm : ∀ lo hi, (∀ a j, lo ≤ a → a ≤ hi → cP a j ∧ a ≠ 1 ∧ a ≠ 2 ∧ a ≠ 3) → Sm lo hi μ μ' := fun lo hi hp a j h1 h2 => k a j (hp a j h1 h2)
  refine ⟨hn, fun j hj => absurd (show j < 0 from hj) (by omega), hp, h.T.sm (sm _ _ (by intro a j h1 h2; unfold cP; omega)), h.S.sm (sm _ _ (by intro a j h1 h2; unfold cP; omega)), ?_, ?_, ?_, ?_, ?_, ?_, ?_, ?_⟩
  · rw [(k 17 0 (by unfold cP; omega)).1]; exact h.hn
  · obtain ⟨p, h1, h2, h3⟩ := h.hi
    refine ⟨p, h1, ?_, fun i hi => (h3 i hi).sm (sm _ _ (by intro a j h1 h2; unfold cP; omega))⟩
    rw [(k 17 2 (by unfold cP; omega)).1]; exact h2
  · rw [(k 0 11 (by unfold cP; omega)).1]; exact h.hh
  · intro i s hi hs; exact (h.he i s hi hs).sm (sm _ _ (by intro a j h1 h2; unfold cP; omega))
  · rw [(k 196 0 (by unfold cP; omega)).1]; exact h.cn
  · intro i hi; rw [(k 197 i (by unfold cP; omega)).1]; exact h.ch i hi
  · intro i hi; rw [(k 198 i (by unfold cP; omega)).1]; exact h.ct i hi
  · intro w hw; rw [(k 8 w (by unfold cP; omega)).2]; exact h.ws w hw
/-! the two texts change places -/
theorem cCode_sw {μ : Mem} : ∀ {c : Cd} {p : Nat}, cCode μ 221 p c → cCode (swM μ) 205 p c
  | [], _, _ => trivial
  | x :: c, p, h => ⟨h.1, h.2.1, cCode_sw h.2.2⟩
theorem cLaw_sw {μ : Mem} {las : Cd} {e : Nat} : ∀ {r : List (Cd × Cd × Cd)} {p : Nat}, cLaw μ 221 las p r e → cLaw (swM μ) 205 las p r e
  | [], p, h => ⟨cCode_sw h.1, h.2.1, h.2.2⟩
  | b :: r, p, h => ⟨cCode_sw h.1, h.2.1, h.2.2.1, cCode_sw h.2.2.2.1, h.2.2.2.2.1, cLaw_sw h.2.2.2.2.2⟩
theorem cT_sw {T : Txt} {μ : Mem} (h : cT 215 T μ) : cT 199 T (swM μ) := by
  obtain ⟨e, a1, a2, a3⟩ := h.la
  refine ⟨h.nS, h.nG, fun s hs => h.lo s hs, fun s hs => h.wo s hs, fun s hs => h.hr s hs, fun s hs => h.hs s hs, fun s hs => h.fe s hs, h.de, h.se, fun s hs => h.cl s hs, fun s hs => h.sp s hs, fun s hs => h.pc s hs, e, a1, a2, fun k hk => ?_⟩
  obtain ⟨p, b1, b2⟩ := a3 k hk
  exact ⟨p, b1, cLaw_sw b2⟩
theorem sw_lo {k : Nat} (h : k < 199 ∨ 231 ≤ k) : sw k = k := by
  unfold sw
  rw [if_neg (by omega), if_neg (by omega)]
/-! an empty state -/
theorem c_b22 {m : Mem} {Kc : Mem → Option Mem} : ∃ m', fX5_begin_22 9 Kc FU 0 m = Kc m' ∧ (∀ j, j < 4 → m'.1 10 j = 0 ∧ m'.1 11 j = 0) ∧ (∀ a x, ¬ (a = 10 ∨ a = 11) → m'.1 a x = m.1 a x) := by
  refine lupX (L := fun n i m => fX5_begin_22 9 Kc n i m) (K := Kc) 4 (fun i m' => (∀ j, j < i → m'.1 10 j = 0 ∧ m'.1 11 j = 0) ∧ (∀ a x, ¬ (a = 10 ∨ a = 11) → m'.1 a x = m.1 a x)) (by omega) ⟨fun g hg => by omega, fun _ _ _ => rfl⟩ ?_ ?_
  · intro k i a hi ⟨k1, k2⟩
    have hb : inb (nI i) 4 := inbN (by omega) (by omega)
    have hcl : (nI i).toNatClampNeg = i := nI_clamp (by omega)
    refine ⟨wI (wI a 10 i 0) 11 i 0, ?_, fun g hg => ?_, fun x y hy => by rw [wI_i, if_neg (by omega), wI_i, if_neg (by omega)]; exact k2 x y hy⟩
    · show fX5_begin_22 9 Kc (k + 1) (nI i) a = _
      rw [fX5_begin_22, if_pos (c_lt L_4 hi (by omega))]
      simp only [if_pos hb, hcl, nm_ap, nI_1]
    · rw [wI_i, wI_i, wI_i, wI_i]
      by_cases c : g = i
      · rw [if_neg (by omega), if_pos ⟨rfl, c⟩, if_pos ⟨rfl, c⟩]; exact ⟨rfl, rfl⟩
      · rw [if_neg (by omega), if_neg (by omega), if_neg (by omega), if_neg (by omega)]; exact k1 g (by omega)
  · intro k a _
    show fX5_begin_22 9 Kc (k + 1) (nI 4) a = _
    rw [fX5_begin_22, if_neg (c_nlt L_4 (by omega) (by omega))]
theorem c_b49 {m : Mem} {Kc : Mem → Option Mem} : ∃ m', fX5_begin_49 9 Kc FU 0 m = Kc m' ∧ (∀ j, j < 7 → m'.1 12 j = 0) ∧ (∀ a x, a ≠ 12 → m'.1 a x = m.1 a x) := by
  refine lupX (L := fun n i m => fX5_begin_49 9 Kc n i m) (K := Kc) 7 (fun i m' => (∀ j, j < i → m'.1 12 j = 0) ∧ (∀ a x, a ≠ 12 → m'.1 a x = m.1 a x)) (by omega) ⟨fun g hg => by omega, fun _ _ _ => rfl⟩ ?_ ?_
  · intro k i a hi ⟨k1, k2⟩
    refine ⟨wI a 12 i 0, ?_, fun g hg => ?_, fun x y hy => by rw [wI_i, if_neg (by omega)]; exact k2 x y hy⟩
    · show fX5_begin_49 9 Kc (k + 1) (nI i) a = _
      rw [fX5_begin_49, if_pos (c_lt L_7 hi (by omega)), if_pos (inbN (by omega) (by omega)), nI_clamp (by omega), nm_ap, nI_1]
    · rw [wI_i]
      by_cases c : g = i
      · rw [if_pos ⟨rfl, c⟩]
      · rw [if_neg (by omega)]; exact k1 g (by omega)
  · intro k a _
    show fX5_begin_49 9 Kc (k + 1) (nI 7) a = _
    rw [fX5_begin_49, if_neg (c_nlt L_7 (by omega) (by omega))]
theorem c_sbegin (m : Mem) : ∃ m', fX5_begin 9 m = some m' ∧ cS 9 S0 m' := by
  unfold fX5_begin
  simp only [nm_ap]
  obtain ⟨m1, e1, a1, a2⟩ := c_b22 (m := wI (wI (wI (wI m 9 0 0) 9 1 0) 9 2 0) 9 3 0) (Kc := fun μ7 => fX5_begin_49 9 (fun μ9 => some μ9) FU 0 μ7)
  obtain ⟨m2, e2, b1, b2⟩ := c_b49 (m := m1) (Kc := fun μ9 => some μ9)
  have k : ∀ j, m2.1 9 j = (wI (wI (wI (wI m 9 0 0) 9 1 0) 9 2 0) 9 3 0).1 9 j := fun j => by rw [b2 _ _ (by omega), a2 _ _ (by omega)]
  refine ⟨m2, e1.trans e2, k 0, k 1, ?_, ?_, fun s hs => ?_, fun s hs => ?_, fun g hg => b1 g hg⟩
  · rw [show bs S0.dd 7 = 0 from bs_zero.2 (fun _ _ => rfl)]; exact k 2
  · rw [show bs S0.sd 4 = 0 from bs_zero.2 (fun _ _ => rfl)]; exact k 3
  · show m2.1 10 s = nI (inB S0 s)
    rw [inB0 s hs, b2 _ _ (by omega)]; exact (a1 s hs).1
  · show m2.1 11 s = 0
    rw [b2 _ _ (by omega)]; exact (a1 s hs).2
theorem c_fail {A : Abs} {μ m : Mem} {f : Nat} {p : Int32} (hr : RInv A μ) (e : fX4_readTape 215 μ = some m) (h0 : m.1 3 0 = nI f) (hf : 1 ≤ f ∧ f ≤ 5) : fX10_read μ = some (nI f, wI m 1 1 0, false) ∧ RInv A (wI m 1 1 0) := by
  have fr : Fr (WX4_readTape 215) μ m := frX4_readTape 215 μ _ e
  have ne : ¬ nI f = 0 := nI_ne0 (by omega) (by omega)
  have q0 : (wI m 1 1 0).1 3 0 = nI f := by rw [wI_i, if_neg (by omega)]; exact h0
  refine ⟨?_, (hr.ag (agR fr (by decide))).ag (fun a j ha => ⟨?_, rfl⟩)⟩
  · unfold fX10_read
    rw [e, bind_s, nm_ap, q0, if_neg ne]
  · rw [wI_i, if_neg (by unfold rP at ha; omega)]
theorem c_failC {A : Abs} {μ m m2 : Mem} {p r : Int32} (hc : CInv A μ) (e : fX4_readTape 215 μ = some m) (h1 : m.1 3 1 = p) (e2 : fX11_read (wI m 1 1 0) = some (r, m2)) : CInv (fltA A p) m2 := by
  have fr : Fr (WX4_readTape 215) μ m := frX4_readTape 215 μ _ e
  have fr2 : Fr WX11_read (wI m 1 1 0) m2 := frX11_read _ _ e2
  have h2 : Ag cP (wI m 1 1 0) m2 := agC fr2 (by decide)
  refine c_flt hc (fun a j ha => ?_) ?_ ?_
  · have k1 := fr a j (by
      have := ha
      unfold cP at this
      simp [WX4_readTape, inW]; omega)
    have k2 := h2 a j ha.1
    refine ⟨k2.1.trans ?_, k2.2.trans k1.2⟩
    rw [wI_i, if_neg (by omega)]; exact k1.1
  · rw [(h2 1 1 (by unfold cP; omega)).1, wI_i, if_pos ⟨rfl, rfl⟩]
  · rw [(h2 3 1 (by unfold cP; omega)).1, wI_i, if_neg (by omega)]; exact h1
theorem sp_read : st_read Inv := by
  intro μ ⟨A, hA, hc, hr⟩
  have hb : ∀ j, bnum (A.tb j) < 256 := fun j => (byte_ok (hA.tb j)).2
  have hbt : ∀ j, A.tb j = bI (bnum (A.tb j)) := fun j => (byte_ok (hA.tb j)).1
  have tp : cTp (fun j => bnum (A.tb j)) A.tn μ := ⟨hc.tn, hA.tn, hb, fun j hj => (hc.tb j hj).trans (hbt j)⟩
  obtain ⟨c1, c2, c3⟩ := c_readTape tp hc.ws
  cases z : tapR (fun j => bnum (A.tb j)) A.tn with
  | error x =>
    obtain ⟨g, t'⟩ := x
    obtain ⟨m, e, h0, h1, hg⟩ := c3 g t' z
    obtain ⟨f1, r1⟩ := c_fail (p := 0) hr e h0 (by omega)
    obtain ⟨m2, e2, i2⟩ := (r_read hA r1 hb hbt).2.2 g t' z
    exact ⟨nI g, wI m 1 1 0, false, m2, f1, e2, _, fltA_ok hA, c_failC hc e h1 e2, i2⟩
  | ok x =>
    obtain ⟨R, t'⟩ := x
    cases l : R.lt with
    | some y =>
      obtain ⟨f, s⟩ := y
      obtain ⟨m, e, h0, h1, hf⟩ := c2 R t' f s z l
      obtain ⟨f1, r1⟩ := c_fail (p := 0) hr e h0 hf
      obtain ⟨m2, e2, i2⟩ := (r_read hA r1 hb hbt).2.1 R t' f s z l
      exact ⟨nI f, wI m 1 1 0, false, m2, f1, e2, _, fltA_ok hA, c_failC hc e h1 e2, i2⟩
    | none =>
      obtain ⟨oT, m, e, h0, h1, cT'⟩ := c1 R t' z l
      have fr : Fr (WX4_readTape 215) μ m := frX4_readTape 215 μ _ e
      obtain ⟨q2, eb, sS⟩ := c_sbegin (wI m 1 1 0)
      have fb : Fr (WX5_begin 9) (wI m 1 1 0) q2 := frX5_begin 9 _ _ eb
      have kb : ∀ a x, ¬ (9 ≤ a ∧ a ≤ 12) → q2.1 a x = (wI m 1 1 0).1 a x ∧ q2.2 a x = m.2 a x := fun a x ha => fb a x (by simp [WX5_begin, inW]; omega)
      generalize h4 : wI (wI (wI q2 17 0 0) 196 0 0) 0 11 0 = m4
      have k4 : ∀ a x, ¬ ((a = 17 ∧ x = 0) ∨ (a = 196 ∧ x = 0) ∨ (a = 0 ∧ x = 11)) → m4.1 a x = q2.1 a x := fun a x ha => by rw [← h4, wI_i, if_neg (by omega), wI_i, if_neg (by omega), wI_i, if_neg (by omega)]
      have l4 : ∀ a x, m4.2 a x = q2.2 a x := fun a x => by rw [← h4]; rfl
      have k5 : ∀ a x, ¬ ((a = 17 ∧ x = 0) ∨ (a = 196 ∧ x = 0) ∨ (a = 0 ∧ x = 11)) → ¬ (9 ≤ a ∧ a ≤ 12) → ¬ (a = 1 ∧ x = 1) → m4.1 a x = m.1 a x := fun a x d1 d2 d3 => by rw [k4 a x d1, (kb a x d2).1, wI_i, if_neg d3]
      have l5 : ∀ a x, ¬ (9 ≤ a ∧ a ≤ 12) → m4.2 a x = m.2 a x := fun a x d2 => (l4 a x).trans (kb a x d2).2
      have q0 : m4.1 3 0 = 0 := by rw [k5 _ _ (by omega) (by omega) (by omega)]; exact h0
      have f1 : fX10_read μ = some (0, m4, true) := by
        unfold fX10_read
        rw [e, bind_s, nm_ap, if_pos (show (wI m 1 1 0).1 3 0 = 0 by rw [wI_i, if_neg (by omega)]; exact h0), eb, bind_s, nm_ap, nm_ap, nm_ap, h4, q0]
      have r1 : RInv A (swM m4) := by
        refine (hr.ag (agR fr (by decide))).ag (fun a j ha => ?_)
        unfold rP at ha
        show m4.1 (sw a) j = m.1 a j ∧ m4.2 (sw a) j = m.2 a j
        rw [sw_lo (by omega)]
        exact ⟨k5 _ _ (by omega) (by omega) (by omega), l5 _ _ (by omega)⟩
      obtain ⟨m2, e2, i2⟩ := (r_read hA r1 hb hbt).1 R t' z l
      have fr2 : Fr WX11_read (swM m4) m2 := frX11_read _ _ e2
      refine ⟨0, m4, true, m2, f1, e2, _, newA_ok hA oT, CInv.ag ?_ (agC fr2 (by decide)), i2⟩
      obtain ⟨p, p1, p2, p3⟩ := hc.hi
      refine ⟨?_, fun j hj => absurd (show j < 0 from hj) (by omega), ?_, ?_, ?_, ?_, ⟨p, p1, ?_, fun i hi => absurd (show i < 0 from hi) (by omega)⟩, ?_, fun i s _ z => (by cases z), ?_, fun i hi => absurd (show i < 0 from hi) (by omega), fun i hi => absurd (show i < 0 from hi) (by omega), fun w hw => ?_⟩
      · show m4.1 1 1 = 0
        rw [k4 _ _ (by omega), (kb _ _ (by omega)).1, wI_i, if_pos ⟨rfl, rfl⟩]
      · show m4.1 3 1 = -1
        rw [k5 _ _ (by omega) (by omega) (by omega)]; exact h1
      · exact cT_sw (cT'.sm (fun a x a1 a2 => ⟨k5 _ _ (by omega) (by omega) (by omega), l5 _ _ (by omega)⟩))
      · have sS4 : cS 9 S0 m4 := sS.sm (fun a x a1 a2 => ⟨k4 _ _ (by omega), l4 _ _⟩)
        exact sS4.sm (fun a x a1 a2 => by
          show m4.1 (sw a) x = m4.1 a x ∧ m4.2 (sw a) x = m4.2 a x
          rw [sw_lo (by omega)]; exact ⟨rfl, rfl⟩)
      · show m4.1 17 0 = 0
        rw [← h4, wI_i, if_neg (by omega), wI_i, if_neg (by omega), wI_i, if_pos ⟨rfl, rfl⟩]
      · show m4.1 17 2 = nI p
        rw [k5 _ _ (by omega) (by omega) (by omega), (fr 17 2 (by simp [WX4_readTape, inW])).1]; exact p2
      · show m4.1 0 11 = nI (bs (fun i => ((none : Option St)).isSome) 3)
        rw [show bs (fun i => ((none : Option St)).isSome) 3 = 0 from bs_zero.2 (fun _ _ => rfl), ← h4, wI_i, if_pos ⟨rfl, rfl⟩]; rfl
      · show m4.1 196 0 = 0
        rw [← h4, wI_i, if_neg (by omega), wI_i, if_pos ⟨rfl, rfl⟩]
      · show m4.2 8 w = _
        rw [l5 _ _ (by omega), (fr 8 w (by simp [WX4_readTape, inW])).2]; exact hc.ws w hw
