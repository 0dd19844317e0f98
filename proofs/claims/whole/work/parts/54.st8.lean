/-! ===== sunday, guest, idle ===== -/
theorem sp_sunday : st_sunday Inv := by
  intro μ a1 a2 ⟨A, hA, hc, hr⟩
  have g7 := hA.T.g7
  have s4 := hA.T.s4
  have no1 : (a1 < 0 ∨ nI A.T.nS ≤ a1) → ∃ (r : Int32) (μ1 μ2 : Mem), fX10_sunday a1 a2 μ = some (r, μ1) ∧ fX11_sunday a1 a2 μ1 = some (r, μ2) ∧ Inv μ2 := by
    intro h
    refine ⟨-1, μ, μ, ?_, ?_, A, hA, hc, hr⟩
    · unfold fX10_sunday; rw [c_isSunday_no hc h s4, bind_s, if_neg (by decide)]
    · unfold fX11_sunday; rw [r_isSunday_no (hr.rX hA) h, bind_s, if_neg (by decide)]
  rcases pk_ix a1 (n := A.T.nS) (by omega) with h | h | ⟨s, hs, rfl⟩
  · exact no1 (Or.inl h)
  · exact no1 (Or.inr h)
  have hb4 : inb (nI s) 4 := inbN (by omega) (by omega)
  have hcs : (nI s).toNatClampNeg = s := nI_clamp (by omega)
  have b25 : inb (nI (25 + s)) 31 := inbN (by omega) (by omega)
  have b21 : inb (nI (21 + s)) 31 := inbN (by omega) (by omega)
  have c25 : (nI (25 + s)).toNatClampNeg = 25 + s := nI_clamp (by omega)
  have c21 : (nI (21 + s)).toNatClampNeg = 21 + s := nI_clamp (by omega)
  have v1 := hA.lv
  have b4 : inb (nI (4 * A.lv + s)) 8 := inbN (by omega) (by omega)
  have c4 : (nI (4 * A.lv + s)).toNatClampNeg = 4 * A.lv + s := nI_clamp (by omega)
  have a25 : (25 : Int32) + nI s = nI (25 + s) := by rw [L_25, nI_add]
  have a21 : (21 : Int32) + nI s = nI (21 + s) := by rw [L_21, nI_add]
  have lt := inB_lt A.S s
  refine qmm hA hc hr (F := fX10_sunday (nI s) a2) (G := fX11_sunday (nI s) a2) (if a2 = 0 then nI (A.T.lo s) else if a2 = 1 then nI (A.T.wo s) else if a2 = 2 then nI (A.S.wn s) else if a2 = 3 then b2i (A.S.sd s) else if a2 = 4 then nI (inB A.S s) else if a2 = 5 then wearV A.T A.S s else if a2 = 6 then sellV A.T A.S s else -1) ?_ ?_ (frX10_sunday _ _ μ) (frX11_sunday _ _) (by decide) (by decide) (by decide) (by decide)
  · unfold fX10_sunday
    rw [c_isSunday_yes hc hs s4, bind_s, if_pos rfl]
    simp only [if_pos hb4, hcs]
    split
    · exact ⟨μ, by rw [show μ.1 200 s = nI (A.T.lo s) from hc.T.lo s hs]⟩
    split
    · exact ⟨μ, by rw [show μ.1 201 s = nI (A.T.wo s) from hc.T.wo s hs]⟩
    split
    · exact ⟨μ, by rw [show μ.1 11 s = nI (A.S.wn s) from hc.S.wn s (by omega)]⟩
    split
    · rw [c_isSold hc.S (by omega), bind_s]
      cases A.S.sd s <;> exact ⟨μ, rfl⟩
    split
    · exact ⟨μ, by rw [show μ.1 10 s = nI (inB A.S s) from hc.S.wh s (by omega)]⟩
    split
    · rw [show μ.1 10 s = nI (inB A.S s) from hc.S.wh s (by omega)]
      unfold wearV
      by_cases c : inB A.S s = 0
      · rw [if_pos (by rw [c]; rfl), if_pos c]; exact ⟨μ, rfl⟩
      · rw [if_neg (nI_ne0 (by omega) (by omega)), if_neg c]
        obtain ⟨m, e⟩ : ∃ m, fX1_ofSunday 2 199 9 (nI s) μ = some (lawV A.T 2 (vsS A.T A.S s), m) := c_ofSunday (k := 2) (by omega) (by omega) hA.T hA.S hc.T hc.S (by omega) hs
        exact ⟨m, by rw [e, bind_s]⟩
    split
    · obtain ⟨m, e⟩ : ∃ m, fX1_ofSunday 3 199 9 (nI s) μ = some (lawV A.T 3 (vsS A.T A.S s), m) := c_ofSunday (k := 3) (by omega) (by omega) hA.T hA.S hc.T hc.S (by omega) hs
      exact ⟨m, by rw [e, bind_s]; rfl⟩
    · exact ⟨μ, rfl⟩
  · intro μ' hr'
    obtain ⟨m, e1, e2, e3, _⟩ := r_copies hA hr'
    have hx := e3.rX hA
    unfold fX11_sunday
    rw [r_isSunday_yes (hr'.rX hA) hs, bind_s, if_pos rfl, e1, bind_s, hx.1, ix4]
    simp only [a25, a21, if_pos b25, c25, if_pos b21, c21, if_pos b4, c4]
    split
    · exact ⟨m, by rw [hx.2.2.2.lo s hs]⟩
    split
    · exact ⟨m, by rw [hx.2.2.2.wo s hs]⟩
    split
    · exact ⟨m, by have := e2.wn s (by omega); rw [Nat.zero_add] at this; rw [this]⟩
    split
    · exact ⟨m, by have := e2.sd s (by omega); rw [Nat.zero_add] at this; rw [this]⟩
    split
    · exact ⟨m, by rw [r_guestBits hx e2 hA.S (by omega), bind_s]⟩
    split
    · obtain ⟨m2, q⟩ := r_wearsOf hx e2 hA.S hs
      exact ⟨m2, by rw [q, bind_s]⟩
    split
    · obtain ⟨m2, q⟩ := r_sellsOf hx e2 hA.S hs
      exact ⟨m2, by rw [q, bind_s]⟩
    · exact ⟨m, rfl⟩
theorem sp_guest : st_guest Inv := by
  intro μ a1 a2 ⟨A, hA, hc, hr⟩
  have g7 := hA.T.g7
  have s4 := hA.T.s4
  have no1 : (a1 < 0 ∨ nI A.T.nG ≤ a1) → ∃ (r : Int32) (μ1 μ2 : Mem), fX10_guest a1 a2 μ = some (r, μ1) ∧ fX11_guest a1 a2 μ1 = some (r, μ2) ∧ Inv μ2 := by
    intro h
    refine ⟨-1, μ, μ, ?_, ?_, A, hA, hc, hr⟩
    · unfold fX10_guest; rw [c_isGuest_no hc h g7, bind_s, if_neg (by decide)]
    · unfold fX11_guest; rw [r_isGuest_no (hr.rX hA) h, bind_s, if_neg (by decide)]
  rcases pk_ix a1 (n := A.T.nG) (by omega) with h | h | ⟨g, hg, rfl⟩
  · exact no1 (Or.inl h)
  · exact no1 (Or.inr h)
  have hb7 : inb (nI g) 7 := inbN (by omega) (by omega)
  have hbg : inb (nI g) 31 := inbN (by omega) (by omega)
  have hcg : (nI g).toNatClampNeg = g := nI_clamp (by omega)
  have b14 : inb (nI (14 + g)) 31 := inbN (by omega) (by omega)
  have b7 : inb (nI (7 + g)) 31 := inbN (by omega) (by omega)
  have c14 : (nI (14 + g)).toNatClampNeg = 14 + g := nI_clamp (by omega)
  have c7 : (nI (7 + g)).toNatClampNeg = 7 + g := nI_clamp (by omega)
  have v1 := hA.lv
  have b4 : inb (nI (7 * A.lv + g)) 14 := inbN (by omega) (by omega)
  have c4 : (nI (7 * A.lv + g)).toNatClampNeg = 7 * A.lv + g := nI_clamp (by omega)
  have a14 : (14 : Int32) + nI g = nI (14 + g) := by rw [L_14, nI_add]
  have a7 : (7 : Int32) + nI g = nI (7 + g) := by rw [L_7, nI_add]
  refine qmm hA hc hr (F := fX10_guest (nI g) a2) (G := fX11_guest (nI g) a2) (if a2 = 0 then nI (A.T.hr g) else if a2 = 1 then nI (A.T.hs g) else if a2 = 2 then nI (A.T.fe g) else if a2 = 3 then whI (A.S.wh g) else if a2 = 4 then nI (A.S.re g) else if a2 = 5 then b2i (A.S.dd g) else if a2 = 6 then gLaw A.T A.S 0 g else if a2 = 7 then gLaw A.T A.S 1 g else -1) ?_ ?_ (frX10_guest _ _ μ) (frX11_guest _ _) (by decide) (by decide) (by decide) (by decide)
  · unfold fX10_guest
    rw [c_isGuest_yes hc hg g7, bind_s, if_pos rfl]
    simp only [if_pos hb7, hcg]
    split
    · exact ⟨μ, by rw [show μ.1 202 g = nI (A.T.hr g) from hc.T.hr g hg]⟩
    split
    · exact ⟨μ, by rw [show μ.1 203 g = nI (A.T.hs g) from hc.T.hs g hg]⟩
    split
    · exact ⟨μ, by rw [show μ.1 204 g = nI (A.T.fe g) from hc.T.fe g hg]⟩
    split
    · exact ⟨μ, by rw [c_whereIs hc.S (by omega) (hA.S.w9 hA.T g), bind_s]⟩
    split
    · exact ⟨μ, by rw [show μ.1 12 g = nI (A.S.re g) from hc.S.re g (by omega)]⟩
    split
    · rw [c_isDead hc.S (by omega), bind_s]
      cases A.S.dd g <;> exact ⟨μ, rfl⟩
    split
    · obtain ⟨m, e⟩ : ∃ m, fX1_ofGuestNow 0 199 9 (nI g) μ = some (gLaw A.T A.S 0 g, m) := c_ofGuestNow (k := 0) (by omega) (by omega) hA.T hA.S hc.T hc.S (by omega) hg
      exact ⟨m, by rw [e, bind_s]⟩
    split
    · obtain ⟨m, e⟩ : ∃ m, fX1_ofGuestNow 1 199 9 (nI g) μ = some (gLaw A.T A.S 1 g, m) := c_ofGuestNow (k := 1) (by omega) (by omega) hA.T hA.S hc.T hc.S (by omega) hg
      exact ⟨m, by rw [e, bind_s]⟩
    · exact ⟨μ, rfl⟩
  · intro μ' hr'
    obtain ⟨m, e1, e2, e3, _⟩ := r_copies hA hr'
    have hx := e3.rX hA
    obtain ⟨⟨m1, q1⟩, ⟨m2, q2⟩⟩ := r_gOf hx e2 hA.S hg
    unfold fX11_guest
    rw [r_isGuest_yes (hr'.rX hA) hg, bind_s, if_pos rfl, e1, bind_s, hx.1, ix7]
    simp only [a14, a7, if_pos b14, c14, if_pos b7, c7, if_pos b4, c4, if_pos hbg, hcg]
    split
    · exact ⟨m, by rw [r_fromAt hx hg, bind_s]⟩
    split
    · exact ⟨m, by rw [hx.2.2.2.hs g hg]⟩
    split
    · exact ⟨m, by rw [hx.2.2.2.fe g hg]⟩
    split
    · exact ⟨m, by have := e2.wh g (by omega); rw [Nat.zero_add] at this; rw [this]⟩
    split
    · exact ⟨m, by have := e2.re g (by omega); rw [Nat.zero_add] at this; rw [this]⟩
    split
    · exact ⟨m, by have := e2.dd g (by omega); rw [Nat.zero_add] at this; rw [this]⟩
    split
    · exact ⟨m1, by rw [q1, bind_s]⟩
    split
    · exact ⟨m2, by rw [q2, bind_s]⟩
    · exact ⟨m, rfl⟩
theorem sp_idle : st_idle Inv := by
  intro μ ⟨A, hA, hc, hr⟩
  have s4 := hA.T.s4
  have v1 := hA.lv
  obtain ⟨m, e1, e2, e3, _⟩ := r_copies hA hr
  have hx := e3.rX hA
  refine qpm hA hc hr (smv (fun s => if A.S.sd s = true then 0 else nI (A.T.lo s) - nI (htk A.T A.S s)) A.T.nS) ?_ ⟨m, ?_⟩ (frX11_idle μ) (by decide) (by decide)
  · unfold fX10_idle
    exact lsum (L := fun n a i => fX10_idle_4 μ (fun y => some y) n a i) (K := fun y => some y) A.T.nS (fun s => if A.S.sd s = true then 0 else nI (A.T.lo s) - nI (htk A.T A.S s)) (by omega)
      (by
        intro n i a hi
        have hb4 : inb (nI i) 4 := inbN (by omega) (by omega)
        have hci : (nI i).toNatClampNeg = i := nI_clamp (by omega)
        show fX10_idle_4 μ (fun y => some y) (n + 1) a (nI i) = _
        rw [fX10_idle_4, hc.T.nS, if_pos (nI_lt hi (by omega)), c_isSold hc.S (by omega), bind_s]
        cases c : A.S.sd i with
        | true => rw [if_pos rfl, nI_1, if_pos rfl, ad0]
        | false =>
          rw [if_neg (by decide)]
          simp only [if_pos hb4, hci, nm_ap]
          rw [show μ.1 10 i = nI (inB A.S i) from hc.S.wh i (by omega), c_hoursOf hc.T hA.T hA.S (by omega), bind_s, show μ.1 200 i = nI (A.T.lo i) from hc.T.lo i hi, nI_1, if_neg (by decide)])
      (by
        intro n a
        show fX10_idle_4 μ (fun y => some y) (n + 1) a (nI A.T.nS) = _
        rw [fX10_idle_4, hc.T.nS, if_neg (nI_nlt (by omega) (by omega))])
  · unfold fX11_idle
    rw [e1, bind_s]
    exact lsum (L := fun n a i => fX11_idle_8 m (fun y => some (y, m)) n a i) (K := fun y => some (y, m)) A.T.nS (fun s => if A.S.sd s = true then 0 else nI (A.T.lo s) - nI (htk A.T A.S s)) (by omega)
      (by
        intro n i a hi
        have b25 : inb (nI (25 + i)) 31 := inbN (by omega) (by omega)
        have c25 : (nI (25 + i)).toNatClampNeg = 25 + i := nI_clamp (by omega)
        have b4 : inb (nI (4 * A.lv + i)) 8 := inbN (by omega) (by omega)
        have c4 : (nI (4 * A.lv + i)).toNatClampNeg = 4 * A.lv + i := nI_clamp (by omega)
        have a25 : (25 : Int32) + nI i = nI (25 + i) := by rw [L_25, nI_add]
        have bv : inb (nI A.lv) 2 := inbN (by omega) (by omega)
        have cv : (nI A.lv).toNatClampNeg = A.lv := nI_clamp (by omega)
        have sd := e2.sd i (by omega)
        rw [Nat.zero_add] at sd
        show fX11_idle_8 m (fun y => some (y, m)) (n + 1) a (nI i) = _
        rw [fX11_idle_8, hx.1, ix4]
        simp only [a25, if_pos b25, c25, if_pos b4, c4, if_pos bv, cv, nm_ap]
        rw [hx.2.2.2.nS, if_pos (nI_lt hi (by omega)), sd, hx.2.2.2.lo i hi, r_hoursTaken hx e2 hA.S (by omega), bind_s, nI_1]
        cases c : A.S.sd i with
        | true => rw [if_neg (by decide), if_pos rfl, ad0]
        | false => rw [if_pos (by decide), if_neg (by decide)])
      (by
        intro n a
        show fX11_idle_8 m (fun y => some (y, m)) (n + 1) a (nI A.T.nS) = _
        rw [fX11_idle_8, hx.1, if_pos (inbN (by omega) (by omega)), nI_clamp (by omega), hx.2.2.2.nS, if_neg (nI_nlt (by omega) (by omega))])
