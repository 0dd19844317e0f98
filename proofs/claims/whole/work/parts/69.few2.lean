/-! ===== fewest: the reference ===== -/
/-- what the reference's table holds of the sets of Sundays below n -/
def rAr (T : Txt) (S : St) (n : Nat) (μ : Mem) : Prop := ∀ th x, th < n → x < 2 ^ T.nG → (μ.1 283 (128 * th + x) = 0 ↔ ¬ aIn T S th x)
theorem r_areAllIn {T : Txt} {S : St} {μ : Mem} (hT : okT T) {th x : Nat} (ht : th < 2 ^ T.nS) (hx : x < 2 ^ T.nG) (hv : rVal T S T.nS μ) (ha : rAr T S th μ) : ∃ b, fX11_areAllIn (nI th) (nI x) μ = some b ∧ (b = true ↔ aIn T S th x) := by
  have g7 := hT.g7
  have s4 := hT.s4
  have p7 : 2 ^ T.nG ≤ 2 ^ 7 := Nat.pow_le_pow_right (by decide) g7
  have p4 : 2 ^ T.nS ≤ 2 ^ 4 := Nat.pow_le_pow_right (by decide) s4
  unfold fX11_areAllIn
  rcases Nat.eq_zero_or_pos th with z | z
  · subst z
    rw [if_pos (by rfl)]
    by_cases c : x = 0
    · rw [if_pos (by rw [c]; rfl)]
      exact ⟨true, rfl, fun _ => (aIn_0 T S x).2 c, fun _ => rfl⟩
    · rw [if_neg (nI_ne0 (by omega) (by omega))]
      exact ⟨false, rfl, (fun q => by cases q), fun q => absurd ((aIn_0 T S x).1 q) c⟩
  · rw [if_neg (nI_ne0 z (by omega)), r_lowestOf z (by omega), bind_s]
    rcases low_all th (by omega) with q | ⟨l1, l2, l3, l4, l5⟩
    · omega
    have ls : low th < T.nS := bit_nG ht l2
    have tx : nI th &&& (((1 : Int32) <<< (nI (low th) &&& 31)) ^^^ (-1)) = nI (th ^^^ 2 ^ low th) := by rw [nI_shl _ (by omega), nI_dif, l4]
    have step : ∀ n p, p < x + 1 → fX11_areAllIn_22 (nI th) (nI x) (nI (low th)) μ (fun _ => some false) (n + 1) (nI p) = if (decide (isSub p x) && (gd T S (low th) p && !decide (μ.1 283 (128 * (th ^^^ 2 ^ low th) + (x ^^^ p)) = 0))) = true then some true else fX11_areAllIn_22 (nI th) (nI x) (nI (low th)) μ (fun _ => some false) n (nI (p + 1)) := by
      intro n p hp
      rw [fX11_areAllIn_22, if_neg (nI_nlt (by omega) (by omega)), r_canBe hT ls (by omega) hv, bind_s, tx, nI_dif, nI_1]
      by_cases sp : isSub p x
      · have xl := sub_x128 sp hx
        rw [decide_eq_true sp, sp.xor, ix128]
        have bl : inb (nI (128 * (th ^^^ 2 ^ low th) + (x ^^^ p))) 2048 := inbN (by omega) (by omega)
        have cl : (nI (128 * (th ^^^ 2 ^ low th) + (x ^^^ p))).toNatClampNeg = 128 * (th ^^^ 2 ^ low th) + (x ^^^ p) := nI_clamp (by omega)
        simp only [if_pos bl, cl]
        cases d : gd T S (low th) p with
        | false => rw [if_neg (by decide), if_neg (by simp)]
        | true =>
          rw [if_pos (by decide)]
          by_cases e : μ.1 283 (128 * (th ^^^ 2 ^ low th) + (x ^^^ p)) = 0
          · rw [if_pos e, if_neg (by simp [e])]
          · rw [if_neg e, if_pos (by simp [e])]
      · rw [decide_eq_false sp, if_neg (by simp), if_neg (by simp)]
    have res := lfind (L := fun n i => fX11_areAllIn_22 (nI th) (nI x) (nI (low th)) μ (fun _ => some false) n i) (X := some false) (x + 1) (fun p => decide (isSub p x) && (gd T S (low th) p && !decide (μ.1 283 (128 * (th ^^^ 2 ^ low th) + (x ^^^ p)) = 0))) (fun _ => some true) (by omega)
      (by intro n i hi hp; show fX11_areAllIn_22 _ _ _ _ _ _ _ = _; rw [step n i hi, if_pos hp])
      (by intro n i hi hp; show fX11_areAllIn_22 _ _ _ _ _ _ _ = _; rw [step n i hi, if_neg (by rw [hp]; decide)])
      (by intro n; show fX11_areAllIn_22 _ _ _ _ _ _ _ = _; rw [fX11_areAllIn_22, if_pos (nI_lt (by omega) (by omega))])
    have le := ffd_le (fun p => decide (isSub p x) && (gd T S (low th) p && !decide (μ.1 283 (128 * (th ^^^ 2 ^ low th) + (x ^^^ p)) = 0))) (x + 1) 0
    by_cases c : ffd (fun p => decide (isSub p x) && (gd T S (low th) p && !decide (μ.1 283 (128 * (th ^^^ 2 ^ low th) + (x ^^^ p)) = 0))) (x + 1) 0 < x + 1
    · rw [if_pos c] at res
      refine ⟨true, res, fun _ => ?_, fun _ => rfl⟩
      have y := ffd_yes (fun p => decide (isSub p x) && (gd T S (low th) p && !decide (μ.1 283 (128 * (th ^^^ 2 ^ low th) + (x ^^^ p)) = 0))) (x + 1) 0 (by omega)
      generalize ffd (fun p => decide (isSub p x) && (gd T S (low th) p && !decide (μ.1 283 (128 * (th ^^^ 2 ^ low th) + (x ^^^ p)) = 0))) (x + 1) 0 = p at c y
      rw [Bool.and_eq_true, Bool.and_eq_true] at y
      obtain ⟨y1, y2, y3⟩ := y
      have sp := of_decide_eq_true y1
      refine (aIn_low z (by omega)).2 ⟨p, sp, y2, ?_⟩
      have := ha (th ^^^ 2 ^ low th) (x ^^^ p) l5 (sub_x128 sp hx)
      apply Classical.byContradiction
      intro n
      rw [this.2 n] at y3
      simp at y3
    · rw [if_neg c] at res
      refine ⟨false, res, (fun q => by cases q), fun q => ?_⟩
      obtain ⟨p, sp, g, a⟩ := (aIn_low z (by omega)).1 q
      have pl := sp.le
      have no := ffd_no (fun p => decide (isSub p x) && (gd T S (low th) p && !decide (μ.1 283 (128 * (th ^^^ 2 ^ low th) + (x ^^^ p)) = 0))) (x + 1) 0 p (by omega) (by omega)
      have ne : ¬ μ.1 283 (128 * (th ^^^ 2 ^ low th) + (x ^^^ p)) = 0 := fun e => (ha (th ^^^ 2 ^ low th) (x ^^^ p) l5 (sub_x128 sp hx)).1 e a
      rw [decide_eq_true sp, g, decide_eq_false ne] at no
      cases no
theorem div16 : ∀ v, v < 128 → nI v / 16 = nI (v / 16) ∧ irm (nI v) 16 = nI (v % 16) := by decide +kernel
/-- the best so far: none of those below i, or one of the least cost -/
def fwB (T : Txt) (S : St) (all i : Nat) (o : Option Nat) : Prop := match o with
  | none => ∀ th, th < i → ¬ aIn T S th all
  | some b => b < i ∧ aIn T S b all ∧ ∀ th, th < i → aIn T S th all → cst b ≤ cst th
theorem sp_fewest : st_fewest Inv := by
  intro μ a1 ⟨A, hA, hc, hr⟩
  have g7 := hA.T.g7
  have s4 := hA.T.s4
  have v1 := hA.lv
  have p7 : 2 ^ A.T.nG ≤ 2 ^ 7 := Nat.pow_le_pow_right (by decide) g7
  have p4 : 2 ^ A.T.nS ≤ 2 ^ 4 := Nat.pow_le_pow_right (by decide) s4
  have ll := livB_sub (T := A.T) A.S
  by_cases w : a1 = 0 ∨ a1 = 1
  · obtain ⟨v, m, e, sp⟩ := c_leastCost hA.T hc.T hc.S hA.S (fun m a b => c_alive hA a b)
    have hN : NOW = 1048576 := rfl
    refine qmm hA hc hr (F := fX10_fewest a1) (G := fX11_fewest a1) (if v < 1048576 then (if a1 = 0 then nI (v / 16) else nI (v % 16)) else -2) ?_ ?_ (frX10_fewest _ μ) (frX11_fewest _) (by decide) (by decide) (by decide) (by decide)
    · refine ⟨m, ?_⟩
      unfold fX10_fewest
      rw [c_two, bind_s, if_pos (by simpa using w), e, bind_s]
      have vN : v ≤ NOW := sp.1
      by_cases c : v < 1048576
      · have v128 : v < 128 := by
          rcases sp.2.2 with q | ⟨th, ⟨t1, _⟩, q⟩
          · omega
          · have := cst_lt (th := th) (by omega); omega
        have dd := div16 v v128
        rw [if_pos (show nI v < 1048576 by rw [show (1048576 : Int32) = nI 1048576 from rfl]; exact nI_lt c (by omega)), if_pos c, dd.1, dd.2]
        split <;> rfl
      · rw [if_neg (show ¬ nI v < 1048576 by rw [show (1048576 : Int32) = nI 1048576 from rfl]; exact nI_nlt (by omega) (by omega)), if_neg c]
    · intro μ' hr'
      obtain ⟨m1, e1, mx, ms, val⟩ := r_fillsValues hA hr'
      unfold fX11_fewest
      rw [r_two, bind_s, if_pos (by simpa using w), e1, bind_s, r_livingBits mx ms, bind_s]
      have keep : ∀ (m : Mem) (j : Nat) (x : Int32), rX A.lv A.T m ∧ rS 277 0 A.S m ∧ rVal A.T A.S A.T.nS m → rX A.lv A.T (wI m 283 j x) ∧ rS 277 0 A.S (wI m 283 j x) ∧ rVal A.T A.S A.T.nS (wI m 283 j x) := by
        rintro m j x ⟨a, b, c⟩
        exact ⟨a.sm (by rw [wI_i, if_neg (by omega)]) (Sm.wI (by omega)), b.sm (Sm.wI (by omega)), fun s x hs hx => by rw [wI_i, if_neg (by omega)]; exact c s x hs hx⟩
      obtain ⟨b, e2, o, i1, i2, _⟩ := lupX (L := fun n v (a : Int32 × Mem) => fX11_fewest_26 a1 (nI (livB A.T A.S)) (fun y9 μ10 => if y9 < 0 then some (y9, μ10) else if a1 = 1 then some (y9, μ10) else (fX11_bits y9 μ10).bind fun q11 => some (q11, μ10)) n a.1 v a.2) (K := fun a => if a.1 < 0 then some (a.1, a.2) else if a1 = 1 then some (a.1, a.2) else (fX11_bits a.1 a.2).bind fun q11 => some (q11, a.2)) (a := ((-2 : Int32), m1)) (2 ^ A.T.nS) (fun i a => ∃ o, a.1 = py1 o ∧ fwB A.T A.S (livB A.T A.S) i o ∧ (rX A.lv A.T a.2 ∧ rS 277 0 A.S a.2 ∧ rVal A.T A.S A.T.nS a.2) ∧ rAr A.T A.S i a.2) (by omega) ⟨none, rfl, fun th ht => by omega, ⟨mx, ms, val⟩, fun th x ht => by omega⟩
        (by
          rintro n i ⟨y, m⟩ hi ⟨o, hy, ho, hk, hA2⟩
          have hy : y = py1 o := hy
          have hk : rX A.lv A.T m ∧ rS 277 0 A.S m ∧ rVal A.T A.S A.T.nS m := hk
          have hA2 : rAr A.T A.S i m := hA2
          show ∃ b : Int32 × Mem, fX11_fewest_26 _ _ _ (n + 1) y (nI i) m = _ ∧ _
          rw [fX11_fewest_26, hk.1.1, if_pos (show inb (nI A.lv) 2 from inbN (by omega) (by omega)), nI_clamp (n := A.lv) (by omega), hk.1.2.2.2.nS, nI_shl _ (by omega), if_pos (nI_lt hi (by omega))]
          generalize hKK : (fun μ6 : Mem => if inb ((128 * nI i) + nI (livB A.T A.S)) 2048 then _ else _) = KK
          obtain ⟨m2, e3, r1, r2, r3⟩ := lupX (L := fun n2 v m => fX11_fewest_45 a1 (nI (livB A.T A.S)) y (nI i) KK n2 v m) (K := KK) (a := m) (2 ^ A.T.nG) (fun j m => (rX A.lv A.T m ∧ rS 277 0 A.S m ∧ rVal A.T A.S A.T.nS m) ∧ rAr A.T A.S i m ∧ ∀ x, x < j → (m.1 283 (128 * i + x) = 0 ↔ ¬ aIn A.T A.S i x)) (by omega) ⟨hk, hA2, fun x hx => by omega⟩
            (by
              rintro n2 j m hj ⟨lk, lb, lx⟩
              have bj : inb (nI (128 * i + j)) 2048 := inbN (by omega) (by omega)
              have cj : (nI (128 * i + j)).toNatClampNeg = 128 * i + j := nI_clamp (by omega)
              obtain ⟨b, eb, hb⟩ := r_areAllIn hA.T hi hj lk.2.2 lb
              show ∃ b, fX11_fewest_45 _ _ _ _ _ _ _ _ = _ ∧ _
              rw [fX11_fewest_45, lk.1.1, if_pos (show inb (nI A.lv) 2 from inbN (by omega) (by omega)), nI_clamp (n := A.lv) (by omega), lk.1.2.2.2.nG, nI_shl _ (by omega), if_pos (nI_lt hj (by omega)), eb, bind_s, ix128]
              simp only [if_pos bj, cj, nm_ap]
              rw [nI_1 j]
              refine ⟨_, rfl, keep m _ _ lk, ?_, ?_⟩
              · intro th x ht hx
                rw [wI_i, if_neg (by omega)]; exact lb th x ht hx
              · intro x hx
                rw [wI_i]
                by_cases c : x = j
                · rw [if_pos ⟨rfl, by omega⟩, c, ← hb]
                  cases b <;> decide
                · rw [if_neg (by omega)]; exact lx x (by omega))
            (by
              rintro n2 m ⟨lk, _⟩
              show fX11_fewest_45 _ _ _ _ _ _ _ _ = _
              rw [fX11_fewest_45, lk.1.1, if_pos (show inb (nI A.lv) 2 from inbN (by omega) (by omega)), nI_clamp (n := A.lv) (by omega), lk.1.2.2.2.nG, nI_shl _ (by omega), if_neg (nI_nlt (by omega) (by omega))])
          have ar2 : rAr A.T A.S (i + 1) m2 := by
            intro th x ht hx
            by_cases c : th = i
            · subst c; exact r3 x hx
            · exact r2 th x (by omega) hx
          have bl : inb (nI (128 * i + livB A.T A.S)) 2048 := inbN (by omega) (by omega)
          have cl : (nI (128 * i + livB A.T A.S)).toNatClampNeg = 128 * i + livB A.T A.S := nI_clamp (by omega)
          have key := r3 _ ll
          have k1 := pcN_lt i (by omega)
          have e4 : fX11_fewest_45 a1 (nI (livB A.T A.S)) y (nI i) KK FU 0 m = KK m2 := e3
          rw [e4, ← hKK]
          simp only [ix128, if_pos bl, cl]
          rw [nI_1]
          by_cases c : m2.1 283 (128 * i + livB A.T A.S) = 0
          · have na := key.1 c
            rw [if_pos c]
            refine ⟨(y, m2), rfl, o, hy, ?_, r1, ar2⟩
            cases o with
            | none =>
              intro th ht
              rcases (show th < i ∨ th = i by omega) with q | q
              · exact ho th q
              · rw [q]; exact na
            | some b =>
              obtain ⟨o1, o2, o3⟩ := ho
              refine ⟨by omega, o2, fun th ht ha => ?_⟩
              rcases (show th < i ∨ th = i by omega) with q | q
              · exact o3 th q ha
              · rw [q] at ha; exact absurd ha na
          · have ya : aIn A.T A.S i (livB A.T A.S) := by
              apply Classical.byContradiction
              intro q
              exact c (key.2 q)
            rw [if_neg c]
            cases o with
            | none =>
              rw [if_pos (show y < 0 by rw [hy]; decide)]
              refine ⟨(nI i, m2), rfl, some i, rfl, ⟨by omega, ya, fun th ht ha => ?_⟩, r1, ar2⟩
              rcases (show th < i ∨ th = i by omega) with q | q
              · exact absurd ha (ho th q)
              · rw [q]; exact Nat.le_refl _
            | some b =>
              obtain ⟨o1, o2, o3⟩ := ho
              have hy : y = nI b := hy
              have k2 := pcN_lt b (by omega)
              rw [hy, if_neg (nI_pos (by omega)), r_bits (by omega), bind_s, r_bits (by omega), bind_s]
              by_cases l : pcN i < pcN b
              · rw [if_pos (nI_lt l (by omega))]
                refine ⟨(nI i, m2), rfl, some i, rfl, ⟨by omega, ya, fun th ht ha => ?_⟩, r1, ar2⟩
                rcases (show th < i ∨ th = i by omega) with q | q
                · have := o3 th q ha
                  unfold cst at this ⊢
                  omega
                · rw [q]; exact Nat.le_refl _
              · rw [if_neg (nI_nlt (by omega) (by omega))]
                refine ⟨(nI b, m2), rfl, some b, rfl, ⟨by omega, o2, fun th ht ha => ?_⟩, r1, ar2⟩
                rcases (show th < i ∨ th = i by omega) with q | q
                · exact o3 th q ha
                · rw [q]; unfold cst; omega)
        (by
          rintro n ⟨y, m⟩ ⟨o, hy, ho, hk, _⟩
          have hk : rX A.lv A.T m ∧ rS 277 0 A.S m ∧ rVal A.T A.S A.T.nS m := hk
          show fX11_fewest_26 _ _ _ (n + 1) y (nI (2 ^ A.T.nS)) m = _
          rw [fX11_fewest_26, hk.1.1, if_pos (show inb (nI A.lv) 2 from inbN (by omega) (by omega)), nI_clamp (n := A.lv) (by omega), hk.1.2.2.2.nS, nI_shl _ (by omega), if_neg (nI_nlt (by omega) (by omega))])
      refine ⟨b.2, Eq.trans e2 ?_⟩
      show (if b.1 < 0 then some (b.1, b.2) else if a1 = 1 then some (b.1, b.2) else (fX11_bits b.1 b.2).bind fun q11 => some (q11, b.2)) = _
      rw [i1]
      cases o with
      | none =>
        have vv : ¬ v < 1048576 := by
          rcases sp.2.2 with q | ⟨th, ⟨t1, t2⟩, q⟩
          · omega
          · exact absurd t2 (i2 th t1)
        rw [if_pos (show py1 none < 0 by decide), if_neg vv]; rfl
      | some g =>
        obtain ⟨o1, o2, o3⟩ := i2
        have cl := cst_lt (th := g) (by omega)
        have vv : v = cst g := by
          have a := sp.2.1 g ⟨o1, o2⟩
          rcases sp.2.2 with q | ⟨th, ⟨t1, t2⟩, q⟩
          · omega
          · have := o3 th t1 t2; omega
        have d1 : v / 16 = pcN g := by rw [vv]; unfold cst; omega
        have d2 : v % 16 = g := by rw [vv]; unfold cst; omega
        rw [if_neg (show ¬ py1 (some g) < 0 from nI_pos (by omega)), if_pos (show v < 1048576 by omega), d1, d2]
        show (if a1 = 1 then some (nI g, b.2) else (fX11_bits (nI g) b.2).bind fun q11 => some (q11, b.2)) = _
        rw [r_bits (by omega), bind_s]
        rcases w with q | q
        · subst q; rw [if_neg (by decide), if_pos rfl]
        · subst q; rw [if_pos rfl, if_neg (by decide)]
  · refine ⟨-1, μ, μ, ?_, ?_, A, hA, hc, hr⟩
    · unfold fX10_fewest
      rw [c_two, bind_s, if_neg (by simpa using w)]
    · unfold fX11_fewest
      rw [r_two, bind_s, if_neg (by simpa using w)]
