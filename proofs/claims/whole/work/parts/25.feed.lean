/-! ===== feed ===== -/
def byt (w k : Int32) : Int32 := (w >>> (k &&& 31)).toInt8.toInt32.toInt8.toInt32
def put4 (f : Nat → Int32) (n : Nat) (w : Int32) : Nat → Int32 := fun j => if j = n + 3 then byt w 0 else if j = n + 2 then byt w 8 else if j = n + 1 then byt w 16 else if j = n then byt w 24 else f j
theorem put4_cong {f g : Nat → Int32} {n : Nat} (w : Int32) (h : ∀ j, j < n → f j = g j) : ∀ j, j < n + 4 → put4 f n w j = put4 g n w j := by
  intro j hj
  unfold put4
  split
  · rfl
  split
  · rfl
  split
  · rfl
  split
  · rfl
  · exact h j (by omega)
theorem byt_b (w k : Int32) : (byt w k).toInt8.toInt32 = byt w k := by unfold byt; simp
theorem put4_b {f : Nat → Int32} (n : Nat) (w : Int32) (h : ∀ j, (f j).toInt8.toInt32 = f j) : ∀ j, (put4 f n w j).toInt8.toInt32 = put4 f n w j := by
  intro j
  unfold put4
  split
  · exact byt_b _ _
  split
  · exact byt_b _ _
  split
  · exact byt_b _ _
  split
  · exact byt_b _ _
  · exact h j
theorem addFour_turn {K : Mem → Option Mem} {w v : Int32} {μ : Mem} {m n : Nat} (hv : ¬ v < 0) (hn : μ.1 1 1 = nI n) (h : n < 2000) :
    fX6_addFour_3 w K (m + 1) v μ = fX6_addFour_3 w K m (v + (-8)) (wI (wI μ 2 n (byt w v)) 1 1 (nI (n + 1))) := by
  rw [fX6_addFour_3, if_neg hv, hn, if_pos (show nI n < (2000 : Int32) from (nI_ltI (b := 2000) (by omega) (by omega)).2 h), if_pos (inbN h (by omega)), nI_clamp (by omega)]
  simp only [nm_ap]
  rw [wI_i, if_neg (by omega), hn, nI_1]
  rfl
theorem addFour_end {K : Mem → Option Mem} {w v : Int32} {μ : Mem} {m : Nat} (hv : v < 0) : fX6_addFour_3 w K (m + 1) v μ = K μ := by
  rw [fX6_addFour_3, if_pos hv]
theorem addFour_spec {w : Int32} {μ : Mem} {n : Nat} (hn : μ.1 1 1 = nI n) (h : n + 4 ≤ 2000) :
    ∃ μ', fX6_addFour w μ = some μ' ∧ μ'.1 1 1 = nI (n + 4) ∧ ∀ j, μ'.1 2 j = put4 (μ.1 2) n w j := by
  unfold fX6_addFour
  rw [show FU = 4091 + 1 + 1 + 1 + 1 + 1 from rfl, addFour_turn (by decide) hn (by omega), addFour_turn (n := n + 1) (by decide) rfl (by omega), addFour_turn (n := n + 2) (by decide) rfl (by omega), addFour_turn (n := n + 3) (by decide) rfl (by omega), addFour_end (by decide)]
  refine ⟨_, rfl, rfl, fun j => ?_⟩
  simp only [wI_i, put4]
  have e1 : (24 : Int32) + (-8) = 16 := by decide
  have e2 : (16 : Int32) + (-8) = 8 := by decide
  have e3 : (8 : Int32) + (-8) = 0 := by decide
  simp [e1, e2, e3]
theorem put_turn {K : Mem → Option Mem} {w v : Int32} {μ : Mem} {m n : Nat} (hv : ¬ v < 0) (hn : μ.1 243 2 = nI n) (h : n < 2000) :
    fX11_put_3 w K (m + 1) v μ = fX11_put_3 w K m (v + (-8)) (wI (wI μ 244 n (byt w v)) 243 2 (nI (n + 1))) := by
  rw [fX11_put_3, if_neg hv, hn, if_pos (inbN h (by omega)), nI_clamp (by omega)]
  simp only [nm_ap]
  rw [wI_i, if_neg (by omega), hn, nI_1]
  rfl
theorem put_end {K : Mem → Option Mem} {w v : Int32} {μ : Mem} {m : Nat} (hv : v < 0) : fX11_put_3 w K (m + 1) v μ = K μ := by
  rw [fX11_put_3, if_pos hv]
theorem put_spec {w : Int32} {μ : Mem} {n : Nat} (hn : μ.1 243 2 = nI n) (h : n + 4 ≤ 2000) :
    ∃ μ', fX11_put w μ = some μ' ∧ μ'.1 243 2 = nI (n + 4) ∧ ∀ j, μ'.1 244 j = put4 (μ.1 244) n w j := by
  unfold fX11_put
  rw [show FU = 4091 + 1 + 1 + 1 + 1 + 1 from rfl, put_turn (by decide) hn (by omega), put_turn (n := n + 1) (by decide) rfl (by omega), put_turn (n := n + 2) (by decide) rfl (by omega), put_turn (n := n + 3) (by decide) rfl (by omega), put_end (by decide)]
  refine ⟨_, rfl, rfl, fun j => ?_⟩
  simp only [wI_i, put4]
  have e1 : (24 : Int32) + (-8) = 16 := by decide
  have e2 : (16 : Int32) + (-8) = 8 := by decide
  have e3 : (8 : Int32) + (-8) = 0 := by decide
  simp [e1, e2, e3]
def put20 (f : Nat → Int32) (n : Nat) (a b c d e : Int32) : Nat → Int32 := put4 (put4 (put4 (put4 (put4 f n a) (n + 4) b) (n + 8) c) (n + 12) d) (n + 16) e
theorem feedC {μ : Mem} {n : Nat} {f : Nat → Int32} (a b c d e : Int32) (hn : μ.1 1 1 = nI n) (hf : ∀ j, j < n → μ.1 2 j = f j) (h : n + 20 ≤ 2000) :
    ∃ μ', fX10_feed a b c d e μ = some (nI (n + 20), μ') ∧ μ'.1 1 1 = nI (n + 20) ∧ ∀ j, j < n + 20 → μ'.1 2 j = put20 f n a b c d e j := by
  obtain ⟨m1, e1, n1, f1⟩ := addFour_spec (w := a) hn (by omega)
  obtain ⟨m2, e2, n2, f2⟩ := addFour_spec (w := b) n1 (by omega)
  obtain ⟨m3, e3, n3, f3⟩ := addFour_spec (w := c) n2 (by omega)
  obtain ⟨m4, e4, n4, f4⟩ := addFour_spec (w := d) n3 (by omega)
  obtain ⟨m5, e5, n5, f5⟩ := addFour_spec (w := e) n4 (by omega)
  refine ⟨m5, ?_, n5, ?_⟩
  · unfold fX10_feed fX6_hasRoomFor
    have : ¬ (2000 : Int32) < nI n + 20 := by
      rw [show (20 : Int32) = nI 20 from rfl, nI_add]
      exact fun q => by have := (nI_ltI (a := 2000) (by omega) (by omega)).1 q; omega
    rw [hn]
    simp only [if_neg this, bind_s, if_true, e1, e2, e3, e4, e5, n5]
  · have c1 := put4_cong a hf
    have c2 := put4_cong b c1
    have c3 := put4_cong c c2
    have c4 := put4_cong d c3
    have c5 := put4_cong e c4
    intro j hj
    rw [f5, show m4.1 2 = put4 (m3.1 2) (n + 4 + 4 + 4) d from funext f4, show m3.1 2 = put4 (m2.1 2) (n + 4 + 4) c from funext f3, show m2.1 2 = put4 (m1.1 2) (n + 4) b from funext f2, show m1.1 2 = put4 (μ.1 2) n a from funext f1]
    exact c5 j hj
theorem feedR {μ : Mem} {n : Nat} {f : Nat → Int32} (a b c d e : Int32) (hn : μ.1 243 2 = nI n) (hf : ∀ j, j < n → μ.1 244 j = f j) (h : n + 20 ≤ 2000) :
    ∃ μ', fX11_feed a b c d e μ = some (nI (n + 20), μ') ∧ μ'.1 243 2 = nI (n + 20) ∧ ∀ j, j < n + 20 → μ'.1 244 j = put20 f n a b c d e j := by
  obtain ⟨m1, e1, n1, f1⟩ := put_spec (w := a) hn (by omega)
  obtain ⟨m2, e2, n2, f2⟩ := put_spec (w := b) n1 (by omega)
  obtain ⟨m3, e3, n3, f3⟩ := put_spec (w := c) n2 (by omega)
  obtain ⟨m4, e4, n4, f4⟩ := put_spec (w := d) n3 (by omega)
  obtain ⟨m5, e5, n5, f5⟩ := put_spec (w := e) n4 (by omega)
  refine ⟨m5, ?_, n5, ?_⟩
  · unfold fX11_feed
    have : ¬ (2000 : Int32) < nI n + 20 := by
      rw [show (20 : Int32) = nI 20 from rfl, nI_add]
      exact fun q => by have := (nI_ltI (a := 2000) (by omega) (by omega)).1 q; omega
    rw [hn]
    simp only [if_neg this, bind_s, e1, e2, e3, e4, e5, n5]
  · have c1 := put4_cong a hf
    have c2 := put4_cong b c1
    have c3 := put4_cong c c2
    have c4 := put4_cong d c3
    have c5 := put4_cong e c4
    intro j hj
    rw [f5, show m4.1 244 = put4 (m3.1 244) (n + 4 + 4 + 4) d from funext f4, show m3.1 244 = put4 (m2.1 244) (n + 4 + 4) c from funext f3, show m2.1 244 = put4 (m1.1 244) (n + 4) b from funext f2, show m1.1 244 = put4 (μ.1 244) n a from funext f1]
    exact c5 j hj
theorem sp_feed : st_feed Inv := by
  intro μ a b c d e ⟨A, hA, hc, hr⟩
  have tn := hA.tn
  by_cases h : A.tn + 20 ≤ 2000
  · obtain ⟨m1, e1, n1, f1⟩ := feedC a b c d e hc.tn hc.tb h
    have fr1 : Fr WX10_feed μ m1 := frX10_feed a b c d e μ _ e1
    have r1 : RInv A m1 := hr.ag (agR fr1 (by decide))
    obtain ⟨m2, e2, n2, f2⟩ := feedR a b c d e r1.tn r1.tb h
    have fr2 : Fr WX11_feed m1 m2 := frX11_feed a b c d e m1 _ e2
    refine ⟨_, m1, m2, e1, e2, _, hA.tape (n := A.tn + 20) (f := put20 A.tb A.tn a b c d e) h (put4_b _ _ (put4_b _ _ (put4_b _ _ (put4_b _ _ (put4_b _ _ hA.tb))))), ?_, ?_⟩
    · have h2 : Ag cP m1 m2 := agC fr2 (by decide)
      refine hc.tape ?_ ?_ ?_
      · intro a j hp
        have h1 := fr1 a j (dj_of cPt_L (by decide) a j hp)
        have h3 := h2 a j hp.1
        exact ⟨h3.1.trans h1.1, h3.2.trans h1.2⟩
      · rw [(h2 1 1 (by unfold cP; omega)).1]; exact n1
      · intro j hj; rw [(h2 2 j (by unfold cP; omega)).1]; exact f1 j hj
    · refine r1.tape ?_ n2 f2
      intro a j hp
      exact fr2 a j (dj_of rPt_L (by decide) a j hp)
  · refine ⟨-1, μ, μ, ?_, ?_, A, hA, hc, hr⟩
    · unfold fX10_feed fX6_hasRoomFor
      have : (2000 : Int32) < nI A.tn + 20 := by
        rw [show (20 : Int32) = nI 20 from rfl, nI_add]
        exact (nI_ltI (a := 2000) (by omega) (by omega)).2 (by omega)
      rw [hc.tn]
      simp only [if_pos this, bind_s]
      rfl
    · unfold fX11_feed
      have : (2000 : Int32) < nI A.tn + 20 := by
        rw [show (20 : Int32) = nI 20 from rfl, nI_add]
        exact (nI_ltI (a := 2000) (by omega) (by omega)).2 (by omega)
      rw [hr.tn, if_pos this]
