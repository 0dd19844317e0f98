/-! ===== the component's laws: one step each ===== -/
theorem ans_int {t : Nat} {K : Mem → Option (Int32 × Mem)} {n d p E v : Nat} {μ : Mem} (hE : μ.1 t 3 = nI E) (hp : p < E) (E8 : E ≤ 408) (hd : d < 16) (h1 : μ.1 (t + 1) p = nI 3) (h2 : μ.1 (t + 2) p = nI v) :
    fX2_answer_11 t K (n + 1) (nI d) (nI p) μ = fX2_answer_11 t K n (nI (d + 1)) (nI (p + 1)) (wI μ 182 d (nI v)) := by
  have hb : inb (nI p) 408 := inbN (by omega) (by omega)
  have hcl : (nI p).toNatClampNeg = p := nI_clamp (by omega)
  have hbd : inb (nI d) 16 := inbN (by omega) (by omega)
  have hcd : (nI d).toNatClampNeg = d := nI_clamp (by omega)
  rw [fX2_answer_11, hE, if_pos (nI_lt hp (by omega))]
  simp only [if_pos hb, hcl, nm_ap]
  rw [h1, if_neg (by decide), if_pos (by decide)]
  unfold fX2_answer_j64_11
  rw [if_pos (c_lt L_16 hd (by omega)), if_pos (by decide)]
  simp only [if_pos hb, hcl, if_pos hbd, hcd, nm_ap, h2, nI_1]
theorem ans_var {t : Nat} {K : Mem → Option (Int32 × Mem)} {n d p E v : Nat} {μ : Mem} (hE : μ.1 t 3 = nI E) (hp : p < E) (E8 : E ≤ 408) (hd : d < 16) (h1 : μ.1 (t + 1) p = nI 13) (h2 : μ.1 (t + 2) p = nI v) (hv : v < 9) :
    fX2_answer_11 t K (n + 1) (nI d) (nI p) μ = fX2_answer_11 t K n (nI (d + 1)) (nI (p + 1)) (wI μ 182 d (μ.1 181 v)) := by
  have hb : inb (nI p) 408 := inbN (by omega) (by omega)
  have hcl : (nI p).toNatClampNeg = p := nI_clamp (by omega)
  have hbd : inb (nI d) 16 := inbN (by omega) (by omega)
  have hcd : (nI d).toNatClampNeg = d := nI_clamp (by omega)
  have hbv : inb (nI v) 9 := inbN (by omega) (by omega)
  have hcv : (nI v).toNatClampNeg = v := nI_clamp (by omega)
  rw [fX2_answer_11, hE, if_pos (nI_lt hp (by omega))]
  simp only [if_pos hb, hcl, nm_ap]
  rw [h1, if_neg (by decide), if_neg (by decide), if_pos (by decide)]
  unfold fX2_answer_j64_11
  rw [if_pos (c_lt L_16 hd (by omega)), if_neg (by decide)]
  simp only [if_pos hb, hcl, h2, if_pos hbd, hcd, if_pos hbv, hcv, nm_ap, nI_1]
theorem ans_end {t : Nat} {K : Mem → Option (Int32 × Mem)} {n d p E : Nat} {μ : Mem} (hE : μ.1 t 3 = nI E) (hp : p < E) (E8 : E ≤ 408) (hd : d < 16) (h1 : μ.1 (t + 1) p = 0) :
    fX2_answer_11 t K (n + 1) (nI (d + 1)) (nI p) μ = some (μ.1 182 d, μ) := by
  have hb : inb (nI p) 408 := inbN (by omega) (by omega)
  have hcl : (nI p).toNatClampNeg = p := nI_clamp (by omega)
  have hbd : inb (nI d) 16 := inbN (by omega) (by omega)
  have hcd : (nI d).toNatClampNeg = d := nI_clamp (by omega)
  rw [fX2_answer_11, hE, if_pos (nI_lt hp (by omega))]
  simp only [if_pos hb, hcl, nm_ap]
  rw [h1, if_pos rfl, if_neg (c_nlt L_1 (by omega) (by omega))]
  simp only [nI_pred, if_pos hbd, hcd]
theorem ans_less {t : Nat} {K : Mem → Option (Int32 × Mem)} {n d p E v : Nat} {μ : Mem} (hE : μ.1 t 3 = nI E) (hp : p < E) (E8 : E ≤ 408) (hd : d + 2 ≤ 16) (h1 : μ.1 (t + 1) p = 10) (h2 : μ.1 (t + 2) p = nI (v + 1)) (hv : p ≤ v) (hv2 : v < 2 ^ 30) :
    fX2_answer_11 t K (n + 1) (nI (d + 2)) (nI p) μ = if μ.1 182 d < μ.1 182 (d + 1) then fX2_answer_11 t K n (nI d) (nI (p + 1)) μ else fX2_answer_11 t K n (nI d) (nI (v + 1)) μ := by
  have hb : inb (nI p) 408 := inbN (by omega) (by omega)
  have hcl : (nI p).toNatClampNeg = p := nI_clamp (by omega)
  have hb0 : inb (nI d) 16 := inbN (by omega) (by omega)
  have hc0 : (nI d).toNatClampNeg = d := nI_clamp (by omega)
  have hb1 : inb (nI (d + 1)) 16 := inbN (by omega) (by omega)
  have hc1 : (nI (d + 1)).toNatClampNeg = d + 1 := nI_clamp (by omega)
  have e2 : nI (d + 2) - 2 = nI d := by rw [L_2, pk_sub (by omega)]; rfl
  have e1 : nI (d + 2) - 1 = nI (d + 1) := nI_pred (d + 1)
  have e3 : nI (d + 2) + (-2) = nI d := by
    rw [show (-2 : Int32) = -1 + -1 by decide, ← Int32.add_assoc, show d + 2 = (d + 1) + 1 by omega, pk_m1, pk_m1]
  have ev : mxI (nI p) (nI (v + 1) - 1) = nI v := by rw [nI_pred, mxI_nI (by omega) (by omega), Nat.max_eq_right hv]
  rw [fX2_answer_11, hE, if_pos (nI_lt hp (by omega))]
  simp only [if_pos hb, hcl, nm_ap]
  rw [h1, if_neg (by decide), if_neg (by decide), if_neg (by decide), if_neg (c_nlt L_2 (by omega) (by omega)), e2, e1, e3]
  simp only [if_pos hb0, hc0, if_pos hb1, hc1]
  rw [if_pos (by decide), h2, ev, nI_1, nI_1]
theorem rk {k : Nat} (h2 : 2 ≤ k) (h5 : k ≤ 5) (a b : Int32) (μ : Mem) (hb : ¬ (k = 5 ∧ b = 0)) : fX2_reckon (nI (k + 4)) a b μ = some (opv k a b) := by
  unfold fX2_reckon opv
  rcases (show k = 2 ∨ k = 3 ∨ k = 4 ∨ k = 5 by omega) with e | e | e | e
  · subst e; rfl
  · subst e; rfl
  · subst e; rfl
  · subst e
    have hb0 : ¬ b = 0 := fun q => hb ⟨rfl, q⟩
    rw [if_neg (by decide), if_neg (by decide), if_neg (by decide), if_neg hb0, if_neg hb0, if_neg (by decide), if_neg (by decide), if_neg (by decide)]
theorem ans_op {t : Nat} {K : Mem → Option (Int32 × Mem)} {n d p E k : Nat} {μ : Mem} (hE : μ.1 t 3 = nI E) (hp : p < E) (E8 : E ≤ 408) (hd : d + 2 ≤ 16) (k2 : 2 ≤ k) (k5 : k ≤ 5) (h1 : μ.1 (t + 1) p = nI (k + 4)) :
    fX2_answer_11 t K (n + 1) (nI (d + 2)) (nI p) μ = if k = 5 ∧ μ.1 182 (d + 1) = 0 then some (0, μ) else fX2_answer_11 t K n (nI (d + 1)) (nI (p + 1)) (wI μ 182 d (opv k (μ.1 182 d) (μ.1 182 (d + 1)))) := by
  have hb : inb (nI p) 408 := inbN (by omega) (by omega)
  have hcl : (nI p).toNatClampNeg = p := nI_clamp (by omega)
  have hb0 : inb (nI d) 16 := inbN (by omega) (by omega)
  have hc0 : (nI d).toNatClampNeg = d := nI_clamp (by omega)
  have hb1 : inb (nI (d + 1)) 16 := inbN (by omega) (by omega)
  have hc1 : (nI (d + 1)).toNatClampNeg = d + 1 := nI_clamp (by omega)
  have e2 : nI (d + 2) - 2 = nI d := by rw [L_2, pk_sub (by omega)]; rfl
  have e1 : nI (d + 2) - 1 = nI (d + 1) := nI_pred (d + 1)
  have e3 : nI (d + 2) + (-1) = nI (d + 1) := pk_m1 (d + 1)
  have e4 : nI (d + 1) - 1 = nI d := nI_pred d
  have n0 : ¬ nI (k + 4) = 0 := nI_ne0 (by omega) (by omega)
  have n3 : ¬ nI (k + 4) = 3 := fun q => by have := (nI_eq (b := 3) (by omega) (by omega)).1 q; omega
  have n13 : ¬ nI (k + 4) = 13 := fun q => by have := (nI_eq (b := 13) (by omega) (by omega)).1 q; omega
  have n10 : ¬ nI (k + 4) = 10 := fun q => by have := (nI_eq (b := 10) (by omega) (by omega)).1 q; omega
  have e9 : nI (k + 4) = 9 ↔ k = 5 := by
    constructor
    · intro q; have := (nI_eq (b := 9) (by omega) (by omega)).1 q; omega
    · intro q; subst q; rfl
  rw [fX2_answer_11, hE, if_pos (nI_lt hp (by omega))]
  simp only [if_pos hb, hcl, nm_ap]
  rw [h1, if_neg n0, if_neg n3, if_neg n13, if_neg (c_nlt L_2 (by omega) (by omega)), e2, e1, e3, e4]
  simp only [if_pos hb0, hc0, if_pos hb1, hc1]
  rw [if_neg n10]
  by_cases c : k = 5
  · rw [if_pos (e9.2 c)]
    by_cases z : μ.1 182 (d + 1) = 0
    · rw [if_pos z, if_pos ⟨c, z⟩]
    · rw [if_neg z, if_neg (fun q => z q.2), rk k2 k5 _ _ _ (fun q => z q.2), bind_s, nI_1]
  · rw [if_neg (fun q => c (e9.1 q)), if_neg (fun q => c q.1), rk k2 k5 _ _ _ (fun q => c q.1), bind_s, nI_1]
/-! a stack that stands in a row of cells -/
def stk (μ : Mem) (a : Nat) : List Int32 → Prop
  | [] => True
  | v :: r => μ.1 a r.length = v ∧ stk μ a r
theorem stk_wI {μ : Mem} {a j : Nat} {v : Int32} : ∀ {st : List Int32}, st.length ≤ j → stk μ a st → stk (wI μ a j v) a st
  | [], _, _ => trivial
  | x :: r, h, hs => by
    simp only [List.length_cons] at h
    refine ⟨?_, stk_wI (by omega) hs.2⟩
    rw [wI_i, if_neg (by omega)]; exact hs.1
def Ex (a : Nat) (μ m : Mem) : Prop := ∀ x j, x ≠ a → m.1 x j = μ.1 x j ∧ m.2 x j = μ.2 x j
theorem Ex.rfl {a : Nat} {μ : Mem} : Ex a μ μ := fun _ _ _ => ⟨Eq.refl _, Eq.refl _⟩
theorem Ex.trans {a : Nat} {μ m m' : Mem} (h : Ex a μ m) (k : Ex a m m') : Ex a μ m' := fun x j hx => ⟨(k x j hx).1.trans (h x j hx).1, (k x j hx).2.trans (h x j hx).2⟩
theorem Ex.w {a j : Nat} {v : Int32} {μ : Mem} : Ex a μ (wI μ a j v) := fun x k hx => ⟨by rw [wI_i, if_neg (fun q => hx q.1)], Eq.refl _⟩
theorem Ex.sm {a lo hi : Nat} {μ m : Mem} (h : Ex a μ m) (k : a < lo ∨ hi < a) : Sm lo hi μ m := fun x j h1 h2 => h x j (by omega)
theorem ev_0 {vs : Nat → Int32} {x : Ins} {c : List Ins} {st : List Int32} (h : x.1 = 0) : ev vs (x :: c) st = ev vs c (nI x.2 :: st) := by
  rcases st with _ | ⟨v1, _ | ⟨v0, r⟩⟩ <;> simp [ev, h]
theorem ev_1 {vs : Nat → Int32} {x : Ins} {c : List Ins} {st : List Int32} (h : x.1 = 1) : ev vs (x :: c) st = ev vs c (vs x.2 :: st) := by
  rcases st with _ | ⟨v1, _ | ⟨v0, r⟩⟩ <;> simp [ev, h]
theorem ev_2 {vs : Nat → Int32} {x : Ins} {c : List Ins} {r : List Int32} {v1 v0 : Int32} (h0 : ¬ x.1 = 0) (h1 : ¬ x.1 = 1) : ev vs (x :: c) (v1 :: v0 :: r) = if x.1 = 5 ∧ v1 = 0 then none else ev vs c (opv x.1 v0 v1 :: r) := by
  simp [ev, h0, h1]
theorem ans_run {t E : Nat} {K : Mem → Option (Int32 × Mem)} (ht : t + 3 < 181 ∨ 182 < t) (E8 : E ≤ 408) : ∀ (c : List Ins) (n p : Nat) (st : List Int32) (d' : Nat) (b : Nat) (μ : Mem), μ.1 t 3 = nI E → p + c.length ≤ E → b ≤ 1 → dpt c (st.length - b) = some d' → b ≤ st.length → st.length - b ≤ 15 → cCode μ t p c → stk μ 182 st →
    (ev (μ.1 181) c st = none → ∃ m, fX2_answer_11 t K (n + c.length) (nI st.length) (nI p) μ = some (0, m)) ∧
    (∀ st', ev (μ.1 181) c st = some st' → ∃ m, fX2_answer_11 t K (n + c.length) (nI st.length) (nI p) μ = fX2_answer_11 t K n (nI st'.length) (nI (p + c.length)) m ∧ stk m 182 st' ∧ Ex 182 μ m ∧ st'.length = d' + b)
  | [], n, p, st, d', b, μ, hE, hp, hb, hd, hbs, h15, hc, hs => by
    refine ⟨fun q => by simp [ev] at q, fun st' q => ⟨μ, ?_, ?_, Ex.rfl, ?_⟩⟩
    · simp [ev] at q; subst q; rfl
    · simp [ev] at q; subst q; exact hs
    · simp [ev] at q; subst q; simp [dpt] at hd; omega
  | x :: c, n, p, st, d', b, μ, hE, hp, hb, hd, hbs, h15, hc, hs => by
    simp only [List.length_cons] at hp ⊢
    rw [show n + (c.length + 1) = (n + c.length) + 1 by omega]
    obtain ⟨k1, k2, k3⟩ := hc
    have next : ∀ (v : Int32) (j : Nat), (wI μ 182 j v).1 t 3 = nI E ∧ cCode (wI μ 182 j v) t (p + 1) c ∧ (wI μ 182 j v).1 181 = μ.1 181 := by
      intro v j
      refine ⟨by rw [wI_i, if_neg (by omega)]; exact hE, cCode_sm (Ex.w.sm (by omega)) k3, ?_⟩
      funext q; rw [wI_i, if_neg (by omega)]
    have push : ∀ (v : Int32), dpt c (st.length - b + 1) = some d' → st.length - b < 15 → ev (μ.1 181) (x :: c) st = ev (μ.1 181) c (v :: st) → fX2_answer_11 t K (n + c.length + 1) (nI st.length) (nI p) μ = fX2_answer_11 t K (n + c.length) (nI (st.length + 1)) (nI (p + 1)) (wI μ 182 st.length v) →
        (ev (μ.1 181) (x :: c) st = none → ∃ m, fX2_answer_11 t K (n + c.length + 1) (nI st.length) (nI p) μ = some (0, m)) ∧
        (∀ st', ev (μ.1 181) (x :: c) st = some st' → ∃ m, fX2_answer_11 t K (n + c.length + 1) (nI st.length) (nI p) μ = fX2_answer_11 t K n (nI st'.length) (nI (p + (c.length + 1))) m ∧ stk m 182 st' ∧ Ex 182 μ m ∧ st'.length = d' + b) := by
      intro v hd1 hlt hev hstep
      obtain ⟨a1, a2, a3⟩ := next v st.length
      have ih := ans_run (K := K) ht E8 c n (p + 1) (v :: st) d' b (wI μ 182 st.length v) a1 (by omega) hb (by simp only [List.length_cons]; rw [show st.length + 1 - b = st.length - b + 1 by omega]; exact hd1) (by simp only [List.length_cons]; omega) (by simp only [List.length_cons]; omega) a2 ⟨by rw [wI_i, if_pos ⟨rfl, rfl⟩], stk_wI (Nat.le_refl _) hs⟩
      simp only [List.length_cons, a3] at ih
      rw [hev, hstep]
      refine ⟨ih.1, fun st' q => ?_⟩
      obtain ⟨m, b1, b2, b3, b4⟩ := ih.2 st' q
      exact ⟨m, by rw [b1, show p + 1 + c.length = p + (c.length + 1) by omega], b2, Ex.trans Ex.w b3, b4⟩
    rw [dpt] at hd
    by_cases c0 : x.1 = 0
    · rw [if_pos c0] at hd
      by_cases l15 : st.length - b < 15
      · rw [if_pos l15] at hd
        refine push (nI x.2) hd l15 (ev_0 c0) ?_
        exact ans_int hE (by omega) E8 (by omega) (by rw [k1, c0]; rfl) (k2 (by omega))
      · rw [if_neg l15] at hd; cases hd
    · rw [if_neg c0] at hd
      by_cases c1 : x.1 = 1
      · rw [if_pos c1] at hd
        by_cases l15 : st.length - b < 15 ∧ x.2 < 9
        · rw [if_pos l15] at hd
          refine push (μ.1 181 x.2) hd l15.1 (ev_1 c1) ?_
          exact ans_var hE (by omega) E8 (by omega) (by rw [k1, c1]; rfl) (k2 (by omega)) l15.2
        · rw [if_neg l15] at hd; cases hd
      · rw [if_neg c1] at hd
        by_cases l2 : 2 ≤ st.length - b ∧ x.1 ≤ 5
        · rw [if_pos l2] at hd
          rcases st with _ | ⟨v1, _ | ⟨v0, r⟩⟩
          · simp at l2
          · simp at l2; omega
          · simp only [List.length_cons] at *
            have hs1 : μ.1 182 (r.length + 1) = v1 := hs.1
            have hs0 : μ.1 182 r.length = v0 := hs.2.1
            have step := ans_op (K := K) (n := n + c.length) (d := r.length) hE (show p < E by omega) E8 (by omega) (show 2 ≤ x.1 by omega) l2.2 (by rw [k1]; unfold stepC; rw [if_neg c0, if_neg c1])
            rw [hs1, hs0] at step
            have hev : ev (μ.1 181) (x :: c) (v1 :: v0 :: r) = if x.1 = 5 ∧ v1 = 0 then none else ev (μ.1 181) c (opv x.1 v0 v1 :: r) := ev_2 c0 c1
            rw [hev, step]
            by_cases z : x.1 = 5 ∧ v1 = 0
            · rw [if_pos z, if_pos z]
              exact ⟨fun _ => ⟨μ, rfl⟩, fun st' q => by cases q⟩
            · rw [if_neg z, if_neg z]
              obtain ⟨a1, a2, a3⟩ := next (opv x.1 v0 v1) r.length
              have ih := ans_run (K := K) ht E8 c n (p + 1) (opv x.1 v0 v1 :: r) d' b (wI μ 182 r.length (opv x.1 v0 v1)) a1 (by omega) hb (by simp only [List.length_cons]; rw [show r.length + 1 - b = r.length + 1 + 1 - b - 1 by omega]; exact hd) (by simp only [List.length_cons]; omega) (by simp only [List.length_cons]; omega) a2 ⟨by rw [wI_i, if_pos ⟨rfl, rfl⟩], stk_wI (Nat.le_refl _) hs.2.2⟩
              simp only [List.length_cons, a3] at ih
              refine ⟨ih.1, fun st' q => ?_⟩
              obtain ⟨m, b1, b2, b3, b4⟩ := ih.2 st' q
              exact ⟨m, by rw [b1, show p + 1 + c.length = p + (c.length + 1) by omega], b2, Ex.trans Ex.w b3, b4⟩
        · rw [if_neg l2] at hd; cases hd
