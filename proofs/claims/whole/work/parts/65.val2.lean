/-! ===== the reference's values; alone ===== -/
theorem lfindL {R : Type} {L : Nat → Int32 → Option R} {X : Option R} {j : Nat} (hj : j < 4095) (ht : ∀ n, L (n + 1) (nI j) = X) (hf : ∀ n i, i < j → L (n + 1) (nI i) = L n (nI (i + 1))) : L FU 0 = X := by
  have go : ∀ k i n, i + k = j → L (k + 1 + n) (nI i) = X := by
    intro k
    induction k with
    | zero =>
      intro i n e
      have : i = j := by omega
      subst this
      rw [show 0 + 1 + n = n + 1 by omega]; exact ht n
    | succ k ih =>
      intro i n e
      rw [show k + 1 + 1 + n = (k + 1 + n) + 1 by omega, hf _ i (by omega)]
      exact ih (i + 1) n (by omega)
  have := go j 0 (4096 - (j + 1)) (by omega)
  rw [show j + 1 + (4096 - (j + 1)) = FU by unfold FU; omega] at this
  exact this
theorem low_no {m i : Nat} (h : i < low m) : m.testBit i = false := ffd_no m.testBit 7 0 i (by omega) h
theorem r_lowestOf {m : Nat} (h0 : 0 < m) (hm : m < 128) (μ : Mem) : fX11_lowestOf (nI m) μ = some (nI (low m)) := by
  rcases low_all m hm with z | ⟨l1, l2, _⟩
  · omega
  unfold fX11_lowestOf
  refine lfindL (L := fun n i => fX11_lowestOf_2 (nI m) μ (fun y1 => some y1) n i) (j := low m) (by omega) ?_ ?_
  · intro n
    show fX11_lowestOf_2 _ _ _ _ _ = _
    rw [fX11_lowestOf_2, nI_bit (by omega) (by omega), if_neg (fun q => by have := bit_zero.1 q; rw [l2] at this; cases this)]
  · intro n i hi
    show fX11_lowestOf_2 _ _ _ _ _ = fX11_lowestOf_2 _ _ _ _ _
    rw [fX11_lowestOf_2, nI_bit (by omega) (by omega), if_pos (bit_zero.2 (low_no hi)), nI_1]
theorem ix128 (s x : Nat) : (128 : Int32) * nI s + nI x = nI (128 * s + x) := by rw [L_128, pk_mul, nI_add]
theorem r_valueAt {v : Nat} {T : Txt} {S : St} {μ : Mem} (h : rX v T μ) (hS : rS 277 0 S μ) (ok : okS T S) {s m : Nat} (hs : s < T.nS) (hm : m < 2 ^ T.nG) (hv : ∀ x, x < m → μ.1 281 (128 * s + x) = vI T S s x) : ∃ m2, fX11_valueAt (nI s) (nI m) μ = some (vI T S s m, m2) := by
  have hT := h.2.2.1
  have g7 := hT.g7
  have s4 := hT.s4
  have p7 : 2 ^ T.nG ≤ 2 ^ 7 := Nat.pow_le_pow_right (by decide) g7
  unfold fX11_valueAt
  rcases low_all m (by omega) with z | ⟨l1, l2, l3, l4, l5⟩
  · subst z
    rw [if_pos (by rfl), vI_zero]; exact ⟨μ, rfl⟩
  have m0 : 0 < m := by
    apply Classical.byContradiction
    intro c
    have : m = 0 := by omega
    subst this; simp at l2
  have gl := bit_nG hm l2
  have bl : inb (nI (128 * s + (m ^^^ 2 ^ low m))) 512 := inbN (by omega) (by omega)
  have cl : (nI (128 * s + (m ^^^ 2 ^ low m))).toNatClampNeg = 128 * s + (m ^^^ 2 ^ low m) := nI_clamp (by omega)
  have b14 : inb (nI (14 + low m)) 31 := inbN (by omega) (by omega)
  have c14 : (nI (14 + low m)).toNatClampNeg = 14 + low m := nI_clamp (by omega)
  have a14 : (14 : Int32) + nI (low m) = nI (14 + low m) := by rw [L_14, nI_add]
  have dd := hS.dd (low m) (by omega)
  rw [Nat.zero_add] at dd
  have lt : m &&& clB T (low m) < 128 := and_lt (by omega)
  have gm := gd_low (S := S) hT (s := s) hm l2
  have vle := vS_le hT S s m
  have lv := vS_low (T := T) (S := S) (s := s) hm l2
  rw [if_neg (nI_ne0 m0 (by omega)), r_lowestOf m0 (by omega), bind_s, nI_shl _ (by omega), nI_dif, l4, ix128]
  simp only [if_pos bl, cl, nm_ap, a14, if_pos b14, c14]
  rw [hv _ l5, dd, r_doesFit h hS gl hs, bind_s, r_clashBits h gl, bind_s, nI_and]
  have bad : gd T S s m = false → vI T S s m = -1 := (vI_m1 hT S s m).2
  cases c1 : gd T S s (m ^^^ 2 ^ low m) with
  | false =>
    rw [if_pos ((vI_neg hT S s _).2 c1), bad (by rw [gm, c1]; rfl)]; exact ⟨μ, rfl⟩
  | true =>
    rw [if_neg (fun q => by have := (vI_neg hT S s _).1 q; rw [c1] at this; cases this)]
    cases c2 : S.dd (low m) with
    | true =>
      rw [if_pos (by decide), bad (by rw [gm]; unfold fitL; rw [c2]; simp)]; exact ⟨μ, rfl⟩
    | false =>
      rw [if_neg (by decide)]
      cases c3 : fits T S (low m) s with
      | false =>
        rw [if_neg (by decide), bad (by rw [gm]; unfold fitL; rw [c3]; simp)]; exact ⟨μ, rfl⟩
      | true =>
        rw [if_pos rfl]
        by_cases c4 : m &&& clB T (low m) = 0
        · rw [if_pos (by rw [c4]; rfl)]
          obtain ⟨⟨m2, e⟩, _⟩ := r_gAt h hS gl hs 0
          refine ⟨m2, ?_⟩
          rw [e, bind_s, (payS_N T S s (low m)).1]
          have g1 : gd T S s m = true := by rw [gm, c1]; unfold fitL; rw [c2, c3]; simp [c4]
          unfold vI
          rw [if_pos c1, if_pos g1, nI_add, lv]
        · rw [if_neg (nI_ne0 (by omega) (by omega)), bad (by rw [gm]; simp [c4])]; exact ⟨μ, rfl⟩
/-- what the reference's table of values holds, over its first n Sundays -/
def rVal (T : Txt) (S : St) (n : Nat) (μ : Mem) : Prop := ∀ s x, s < n → x < 2 ^ T.nG → μ.1 281 (128 * s + x) = vI T S s x
theorem r_fillsValues {A : Abs} {μ : Mem} (hA : okA A) (hr : RInv A μ) : ∃ m, fX11_fillsValues μ = some m ∧ rX A.lv A.T m ∧ rS 277 0 A.S m ∧ rVal A.T A.S A.T.nS m := by
  have g7 := hA.T.g7
  have s4 := hA.T.s4
  have v1 := hA.lv
  have p7 : 2 ^ A.T.nG ≤ 2 ^ 7 := Nat.pow_le_pow_right (by decide) g7
  obtain ⟨m0, e0, s0, r0, _⟩ := r_copies hA hr
  have x0 := r0.rX hA
  unfold fX11_fillsValues
  rw [e0, bind_s]
  refine ex_step (lupX (L := fun n v m => fX11_fillsValues_6 (fun μ5 => some μ5) n v m) (K := fun μ5 => some μ5) A.T.nS (fun i m => rX A.lv A.T m ∧ rS 277 0 A.S m ∧ rVal A.T A.S i m) (by omega) ⟨x0, s0, fun s x hs => by omega⟩ ?_ ?_) ?_
  · rintro n i m hi ⟨mx, ms, mv⟩
    show ∃ b, fX11_fillsValues_6 _ _ _ _ = _ ∧ _
    rw [fX11_fillsValues_6, mx.1, if_pos (show inb (nI A.lv) 2 from inbN (by omega) (by omega)), nI_clamp (n := A.lv) (by omega), mx.2.2.2.nS, if_pos (nI_lt hi (by omega)), nI_1]
    obtain ⟨m2, e2, k1, k2, k3, k4⟩ := lupX (L := fun n2 v m => fX11_fillsValues_21 (nI i) (fun μ4 => fX11_fillsValues_6 (fun μ5 => some μ5) n (nI (i + 1)) μ4) n2 v m) (K := fun μ4 => fX11_fillsValues_6 (fun μ5 => some μ5) n (nI (i + 1)) μ4) (a := m) (2 ^ A.T.nG) (fun j m => rX A.lv A.T m ∧ rS 277 0 A.S m ∧ rVal A.T A.S i m ∧ ∀ x, x < j → m.1 281 (128 * i + x) = vI A.T A.S i x) (by omega) ⟨mx, ms, mv, fun x hx => by omega⟩
      (by
        rintro n2 j m hj ⟨kx, ks, kv, kw⟩
        have bl : inb (nI (128 * i + j)) 512 := inbN (by omega) (by omega)
        have cl : (nI (128 * i + j)).toNatClampNeg = 128 * i + j := nI_clamp (by omega)
        obtain ⟨q, e⟩ := r_valueAt kx ks hA.S hi hj kw
        have f : Fr WX11_valueAt m q := frX11_valueAt _ _ _ _ e
        have f1 := smF 281 281 f (by decide)
        have qx : rX A.lv A.T q := kx.sm (f 243 18 (by simp [WX11_valueAt, inW])).1 (smF 253 272 f (by decide))
        have qs : rS 277 0 A.S q := ks.sm (smF 277 277 f (by decide))
        show ∃ b, fX11_fillsValues_21 _ _ _ _ _ = _ ∧ _
        rw [fX11_fillsValues_21, kx.1, if_pos (show inb (nI A.lv) 2 from inbN (by omega) (by omega)), nI_clamp (n := A.lv) (by omega), kx.2.2.2.nG, nI_shl _ (by omega), if_pos (nI_lt hj (by omega)), e, bind_s, ix128, nI_1]
        simp only [if_pos bl, cl, nm_ap]
        refine ⟨_, rfl, qx.sm (by rw [wI_i, if_neg (by omega)]) (Sm.wI (by omega)), qs.sm (Sm.wI (by omega)), ?_, ?_⟩
        · intro s x hs hx
          rw [wI_i, if_neg (by omega), f1.i 281 _ (by omega) (by omega)]; exact kv s x hs hx
        · intro x hx
          rw [wI_i]
          by_cases c : x = j
          · rw [if_pos ⟨rfl, by omega⟩, c]
          · rw [if_neg (by omega), f1.i 281 _ (by omega) (by omega)]; exact kw x (by omega))
      (by
        rintro n2 m ⟨kx, _⟩
        show fX11_fillsValues_21 _ _ _ _ _ = _
        rw [fX11_fillsValues_21, kx.1, if_pos (show inb (nI A.lv) 2 from inbN (by omega) (by omega)), nI_clamp (n := A.lv) (by omega), kx.2.2.2.nG, nI_shl _ (by omega), if_neg (nI_nlt (by omega) (by omega))])
    refine ⟨m2, e2, k1, k2, ?_⟩
    intro s x hs hx
    by_cases c : s = i
    · subst c; exact k4 x hx
    · exact k3 s x (by omega) hx
  · rintro n m ⟨mx, _⟩
    show fX11_fillsValues_6 _ _ _ _ = _
    rw [fX11_fillsValues_6, mx.1, if_pos (show inb (nI A.lv) 2 from inbN (by omega) (by omega)), nI_clamp (n := A.lv) (by omega), mx.2.2.2.nS, if_neg (nI_nlt (by omega) (by omega))]
  · rintro m k
    exact ⟨m, rfl, k⟩
def bstS (T : Txt) (S : St) (s : Nat) : Nat → Nat
  | 0 => 0
  | i + 1 => if vI T S s (bstS T S s i) < vI T S s i then i else bstS T S s i
theorem bstS_le (T : Txt) (S : St) (s : Nat) : ∀ i, bstS T S s i ≤ i
  | 0 => Nat.le_refl _
  | i + 1 => by
    have := bstS_le T S s i
    rw [bstS]; split <;> omega
theorem bstS_lt (T : Txt) (S : St) (s : Nat) : ∀ i, bstS T S s (i + 1) ≤ i := by
  intro i
  have := bstS_le T S s i
  rw [bstS]; split <;> omega
theorem bstS_1 (T : Txt) (S : St) (s : Nat) : bstS T S s 1 = 0 := Nat.le_zero.1 (bstS_lt T S s 0)
theorem sp_alone : st_alone Inv := by
  intro μ a1 a2 ⟨A, hA, hc, hr⟩
  have g7 := hA.T.g7
  have s4 := hA.T.s4
  have v1 := hA.lv
  have p7 : 2 ^ A.T.nG ≤ 2 ^ 7 := Nat.pow_le_pow_right (by decide) g7
  have p1 : 1 ≤ 2 ^ A.T.nG := Nat.two_pow_pos _
  have no1 : (a1 < 0 ∨ nI A.T.nS ≤ a1) → ∃ (r : Int32) (μ1 μ2 : Mem), fX10_alone a1 a2 μ = some (r, μ1) ∧ fX11_alone a1 a2 μ1 = some (r, μ2) ∧ Inv μ2 := by
    intro h
    refine ⟨-1, μ, μ, ?_, ?_, A, hA, hc, hr⟩
    · unfold fX10_alone; rw [c_isSunday_no hc h s4, bind_s, if_neg (by decide)]
    · unfold fX11_alone; rw [r_isSunday_no (hr.rX hA) h, bind_s, if_neg (by decide)]
  rcases pk_ix a1 (n := A.T.nS) (by omega) with h | h | ⟨s, hs, rfl⟩
  · exact no1 (Or.inl h)
  · exact no1 (Or.inr h)
  by_cases w : a2 = 0 ∨ a2 = 1
  · have bl : bstS A.T A.S s (2 ^ A.T.nG) < 2 ^ A.T.nG := by
      have := bstS_lt A.T A.S s (2 ^ A.T.nG - 1)
      rw [show 2 ^ A.T.nG - 1 + 1 = 2 ^ A.T.nG by omega] at this
      omega
    refine qmm hA hc hr (F := fX10_alone (nI s) a2) (G := fX11_alone (nI s) a2) (if a2 = 0 then vI A.T A.S s (bstS A.T A.S s (2 ^ A.T.nG)) else nI (bstS A.T A.S s (2 ^ A.T.nG))) ?_ ?_ (frX10_alone _ _ μ) (frX11_alone _ _) (by decide) (by decide) (by decide) (by decide)
    · obtain ⟨m, e, f, val⟩ := c_valueSets hA.T hA.S hc.T hc.S hs
      have mT : cT 199 A.T m := hc.T.sm (f.sm (by intro a j h1 h2; simp [inW]; omega))
      have hb4 : inb (nI s) 4 := inbN (by omega) (by omega)
      have hcs : (nI s).toNatClampNeg = s := nI_clamp (by omega)
      have bb : inb (nI (bstS A.T A.S s (2 ^ A.T.nG))) 128 := inbN (by omega) (by omega)
      have cb : (nI (bstS A.T A.S s (2 ^ A.T.nG))).toNatClampNeg = bstS A.T A.S s (2 ^ A.T.nG) := nI_clamp (by omega)
      have big : fX3_bestSet 199 (nI s) m = some (nI (bstS A.T A.S s (2 ^ A.T.nG))) := by
        unfold fX3_bestSet
        simp only [if_pos hb4, hcs]
        obtain ⟨b, e, ib⟩ := lupX1 (L := fun n v (a : Int32) => fX3_bestSet_13 199 (185 + s) m (fun y => some y) n a v) (K := fun y => some y) (a := (0 : Int32)) (2 ^ A.T.nG) (fun i a => a = nI (bstS A.T A.S s i)) p1 (by omega) (by rw [bstS_1]; rfl)
          (by
            intro n i a h1 hi ha
            subst ha
            have le := bstS_lt A.T A.S s (i - 1)
            rw [show i - 1 + 1 = i by omega] at le
            have bi : inb (nI i) 128 := inbN (by omega) (by omega)
            have ci : (nI i).toNatClampNeg = i := nI_clamp (by omega)
            have b2 : inb (nI (bstS A.T A.S s i)) 128 := inbN (by omega) (by omega)
            have c2 : (nI (bstS A.T A.S s i)).toNatClampNeg = bstS A.T A.S s i := nI_clamp (by omega)
            show ∃ b, fX3_bestSet_13 _ _ _ _ _ _ _ = _ ∧ _
            rw [fX3_bestSet_13, mT.nG, nI_shl _ (by omega), if_pos (nI_lt hi (by omega)), nI_1]
            simp only [if_pos bi, ci, if_pos b2, c2]
            rw [val i hi, val _ (by omega), bstS]
            by_cases c : vI A.T A.S s (bstS A.T A.S s i) < vI A.T A.S s i
            · rw [if_pos c, if_pos c]; exact ⟨_, rfl, rfl⟩
            · rw [if_neg c, if_neg c]; exact ⟨_, rfl, rfl⟩)
          (by
            intro n a ha
            show fX3_bestSet_13 _ _ _ _ _ _ _ = _
            rw [fX3_bestSet_13, mT.nG, nI_shl _ (by omega), if_neg (nI_nlt (by omega) (by omega))])
        rw [ib] at e
        exact e
      refine ⟨m, ?_⟩
      unfold fX10_alone
      rw [c_isSunday_yes hc hs s4, bind_s, if_pos rfl, c_two, bind_s, if_pos (by simpa using w), e, bind_s, big, bind_s]
      simp only [if_pos hb4, hcs, if_pos bb, cb]
      rw [val _ bl]
      split <;> rfl
    · intro μ' hr'
      obtain ⟨m, e, mx, ms, val⟩ := r_fillsValues hA hr'
      refine ⟨m, ?_⟩
      unfold fX11_alone
      rw [r_isSunday_yes (hr'.rX hA) hs, bind_s, if_pos rfl, r_two, bind_s, if_pos (by simpa using w), e, bind_s]
      obtain ⟨b, e, ib⟩ := lupX1 (L := fun n v (a : Int32) => fX11_alone_28 (nI s) a2 m (fun y4 => if a2 = 0 then if inb ((128 * nI s) + y4) 512 then some ((m.1 281 ((128 * nI s) + y4).toNatClampNeg), m) else none else some (y4, m)) n a v) (K := fun y4 => if a2 = 0 then if inb ((128 * nI s) + y4) 512 then some ((m.1 281 ((128 * nI s) + y4).toNatClampNeg), m) else none else some (y4, m)) (a := (0 : Int32)) (2 ^ A.T.nG) (fun i a => a = nI (bstS A.T A.S s i)) p1 (by omega) (by rw [bstS_1]; rfl)
        (by
          intro n i a h1 hi ha
          subst ha
          have le := bstS_lt A.T A.S s (i - 1)
          rw [show i - 1 + 1 = i by omega] at le
          have bi : inb (nI (128 * s + i)) 512 := inbN (by omega) (by omega)
          have ci : (nI (128 * s + i)).toNatClampNeg = 128 * s + i := nI_clamp (by omega)
          have b2 : inb (nI (128 * s + bstS A.T A.S s i)) 512 := inbN (by omega) (by omega)
          have c2 : (nI (128 * s + bstS A.T A.S s i)).toNatClampNeg = 128 * s + bstS A.T A.S s i := nI_clamp (by omega)
          show ∃ b, fX11_alone_28 _ _ _ _ _ _ _ = _ ∧ _
          rw [fX11_alone_28, mx.1, if_pos (show inb (nI A.lv) 2 from inbN (by omega) (by omega)), nI_clamp (n := A.lv) (by omega), mx.2.2.2.nG, nI_shl _ (by omega), if_pos (nI_lt hi (by omega)), nI_1]
          simp only [ix128, if_pos bi, ci, if_pos b2, c2]
          rw [val s i hs hi, val s _ hs (by omega), bstS]
          by_cases c : vI A.T A.S s (bstS A.T A.S s i) < vI A.T A.S s i
          · rw [if_pos c, if_pos c]; exact ⟨_, rfl, rfl⟩
          · rw [if_neg c, if_neg c]; exact ⟨_, rfl, rfl⟩)
        (by
          intro n a ha
          show fX11_alone_28 _ _ _ _ _ _ _ = _
          rw [fX11_alone_28, mx.1, if_pos (show inb (nI A.lv) 2 from inbN (by omega) (by omega)), nI_clamp (n := A.lv) (by omega), mx.2.2.2.nG, nI_shl _ (by omega), if_neg (nI_nlt (by omega) (by omega))])
      refine Eq.trans e ?_
      have bb : inb (nI (128 * s + bstS A.T A.S s (2 ^ A.T.nG))) 512 := inbN (by omega) (by omega)
      have cb : (nI (128 * s + bstS A.T A.S s (2 ^ A.T.nG))).toNatClampNeg = 128 * s + bstS A.T A.S s (2 ^ A.T.nG) := nI_clamp (by omega)
      rw [ib]
      simp only [ix128, if_pos bb, cb]
      rw [val s _ hs bl]
      split <;> rfl
  · refine ⟨-1, μ, μ, ?_, ?_, A, hA, hc, hr⟩
    · unfold fX10_alone
      rw [c_isSunday_yes hc hs s4, bind_s, if_pos rfl, c_two, bind_s, if_neg (by simpa using w)]
    · unfold fX11_alone
      rw [r_isSunday_yes (hr.rX hA) hs, bind_s, if_pos rfl, r_two, bind_s, if_neg (by simpa using w)]
