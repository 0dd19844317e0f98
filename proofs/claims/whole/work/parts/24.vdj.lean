/-! ===== cells that are apart ===== -/
abbrev CellL : Type := List (Nat × Nat × Option Nat)
def dj1 (e e' : Nat × Nat × Option Nat) : Bool := Nat.ble (e.1 + e.2.1) e'.1 || Nat.ble (e'.1 + e'.2.1) e.1 || (match e.2.2, e'.2.2 with | some a, some b => a != b | _, _ => false)
def dj (W1 W2 : CellL) : Bool := W1.all fun e => W2.all fun e' => dj1 e e'
theorem dj_sound {W1 W2 : CellL} (h : dj W1 W2 = true) {a j : Nat} (h1 : inW W1 a j) : ¬ inW W2 a j := by
  intro h2
  obtain ⟨e, he, p1, p2, p3⟩ := inW_mem.1 h1
  obtain ⟨e', he', q1, q2, q3⟩ := inW_mem.1 h2
  have h3 := List.all_eq_true.1 (List.all_eq_true.1 h e he) e' he'
  unfold dj1 at h3
  simp only [Bool.or_eq_true, Nat.ble_eq] at h3
  rcases h3 with (h3 | h3) | h3
  · omega
  · omega
  · rcases p3 with p3 | p3 <;> rcases q3 with q3 | q3 <;> rw [p3, q3] at h3 <;> simp at h3
theorem dj_of {P : Nat → Nat → Prop} {L W : CellL} (hP : ∀ a j, P a j → inW L a j) (h : dj L W = true) : ∀ a j, P a j → ¬ inW W a j := fun a j hp => dj_sound h (hP a j hp)
def cPL : CellL := [(0, 1, some 11), (1, 2, none), (3, 1, some 1), (8, 5, none), (17, 162, none), (196, 19, none), (231, 12, none)]
def rPL : CellL := [(243, 1, some 2), (243, 1, some 17), (243, 1, some 18), (243, 1, some 56), (243, 1, some 62), (244, 1, none), (250, 1, none), (253, 20, none), (276, 1, none), (280, 1, none), (285, 4, none)]
theorem cP_L : ∀ a j, cP a j → inW cPL a j := by intro a j h; unfold cP at h; simp [cPL, inW]; omega
theorem rP_L : ∀ a j, rP a j → inW rPL a j := by intro a j h; unfold rP at h; simp [rPL, inW]; omega
theorem agC {μ μ' : Mem} {W} (h : Fr W μ μ') (k : dj cPL W = true) : Ag cP μ μ' := Ag.of h (dj_of cP_L k)
theorem agR {μ μ' : Mem} {W} (h : Fr W μ μ') (k : dj rPL W = true) : Ag rP μ μ' := Ag.of h (dj_of rP_L k)
theorem Ag.trans {P : Nat → Nat → Prop} {a b c : Mem} (h : Ag P a b) (k : Ag P b c) : Ag P a c := fun x j hx => ⟨(k x j hx).1.trans (h x j hx).1, (k x j hx).2.trans (h x j hx).2⟩
theorem Ag.sub {P Q : Nat → Nat → Prop} {a b : Mem} (h : Ag P a b) (k : ∀ x j, Q x j → P x j) : Ag Q a b := fun x j hx => h x j (k x j hx)
theorem smF {μ μ' : Mem} {W} (lo hi : Nat) (h : Fr W μ μ') (k : dj [(lo, hi + 1 - lo, none)] W = true) : Sm lo hi μ μ' :=
  Sm.of h (dj_of (P := fun a _ => lo ≤ a ∧ a ≤ hi) (by intro a j hp; simp [inW]; omega) k · · ⟨·, ·⟩)
def cPtL : CellL := [(0, 1, some 11), (3, 1, some 1), (8, 5, none), (17, 162, none), (196, 19, none), (231, 12, none)]
def rPtL : CellL := [(243, 1, some 17), (243, 1, some 18), (243, 1, some 56), (243, 1, some 62), (250, 1, none), (253, 20, none), (276, 1, none), (280, 1, none), (285, 4, none)]
theorem cPt_L : ∀ a j, (cP a j ∧ a ≠ 1 ∧ a ≠ 2) → inW cPtL a j := by intro a j h; unfold cP at h; simp [cPtL, inW]; omega
theorem rPt_L : ∀ a j, (rP a j ∧ ¬ (a = 243 ∧ j = 2) ∧ a ≠ 244) → inW rPtL a j := by intro a j h; unfold rP at h; simp [rPtL, inW]; omega
def cPgL : CellL := [(0, 1, some 11), (1, 2, none), (3, 1, some 1), (8, 1, none), (196, 19, none), (231, 12, none)]
def rPgL : CellL := [(243, 1, some 2), (243, 1, some 17), (243, 1, some 18), (243, 1, some 62), (244, 1, none), (250, 1, none), (253, 20, none), (285, 4, none)]
theorem cPg_L : ∀ a j, (cP a j ∧ ¬ (9 ≤ a ∧ a ≤ 12) ∧ ¬ (17 ≤ a ∧ a ≤ 178)) → inW cPgL a j := by intro a j h; unfold cP at h; simp [cPgL, inW]; omega
theorem rPg_L : ∀ a j, (rP a j ∧ ¬ (a = 243 ∧ j = 56) ∧ a ≠ 276 ∧ a ≠ 280) → inW rPgL a j := by intro a j h; unfold rP at h; simp [rPgL, inW]; omega
def cPhL : CellL := [(1, 2, none), (3, 1, some 1), (8, 5, none), (17, 162, none), (196, 19, none)]
def rPhL : CellL := [(243, 1, some 2), (243, 1, some 17), (243, 1, some 18), (243, 1, some 56), (243, 1, some 62), (244, 1, none), (250, 1, none), (253, 20, none), (276, 1, none), (280, 1, none), (285, 2, none)]
theorem cPh_L : ∀ a j, (cP a j ∧ ¬ (a = 0 ∧ j = 11) ∧ ¬ (231 ≤ a ∧ a ≤ 242)) → inW cPhL a j := by intro a j h; unfold cP at h; simp [cPhL, inW]; omega
theorem rPh_L : ∀ a j, (rP a j ∧ a ≠ 287 ∧ a ≠ 288) → inW rPhL a j := by intro a j h; unfold rP at h; simp [rPhL, inW]; omega
