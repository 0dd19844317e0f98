/-! ===== which cells a function may write: frames ===== -/
def inW : List (Nat × Nat × Option Nat) → Nat → Nat → Prop
  | [], _, _ => False
  | e :: W, a, j => (e.1 ≤ a ∧ a < e.1 + e.2.1 ∧ (e.2.2 = none ∨ e.2.2 = some j)) ∨ inW W a j
def inWb : List (Nat × Nat × Option Nat) → Nat → Nat → Bool
  | [], _, _ => false
  | e :: W, a, j => (Nat.ble e.1 a && Nat.blt a (e.1 + e.2.1) && (e.2.2 == none || e.2.2 == some j)) || inWb W a j
def inWn : List (Nat × Nat × Option Nat) → Nat → Bool
  | [], _ => false
  | e :: W, a => (Nat.ble e.1 a && Nat.blt a (e.1 + e.2.1) && e.2.2 == none) || inWn W a
theorem inWb_iff {a j : Nat} : ∀ {W}, inWb W a j = true ↔ inW W a j
  | [] => by simp [inWb, inW]
  | e :: W => by
    simp only [inWb, inW, Bool.or_eq_true, Bool.and_eq_true, Nat.ble_eq, Nat.blt_eq, beq_iff_eq, inWb_iff (W := W)]
    constructor
    · rintro (⟨⟨h1, h2⟩, h3⟩ | h)
      · exact Or.inl ⟨h1, h2, h3⟩
      · exact Or.inr h
    · rintro (⟨h1, h2, h3⟩ | h)
      · exact Or.inl ⟨⟨h1, h2⟩, h3⟩
      · exact Or.inr h
theorem inw_s {W} {a j : Nat} (h : inWb W a j = true) : inW W a j := inWb_iff.1 h
theorem inw_n {a j : Nat} : ∀ {W}, inWn W a = true → inW W a j
  | [], h => by simp [inWn] at h
  | e :: W, h => by
    simp only [inWn, Bool.or_eq_true, Bool.and_eq_true, Nat.ble_eq, Nat.blt_eq, beq_iff_eq] at h
    rcases h with ⟨⟨h1, h2⟩, h3⟩ | h
    · exact Or.inl ⟨h1, h2, Or.inl h3⟩
    · exact Or.inr (inw_n h)
theorem inW_mem {a j : Nat} : ∀ {W}, inW W a j ↔ ∃ e ∈ W, e.1 ≤ a ∧ a < e.1 + e.2.1 ∧ (e.2.2 = none ∨ e.2.2 = some j)
  | [] => by simp [inW]
  | e :: W => by simp only [inW, inW_mem (W := W), List.mem_cons, exists_eq_or_imp]
theorem sub_mem {W1 W2 : List (Nat × Nat × Option Nat)} (h : ∀ e ∈ W1, e ∈ W2) : ∀ a j, inW W1 a j → inW W2 a j := by
  intro a j h1
  obtain ⟨e, he, h2⟩ := inW_mem.1 h1
  exact inW_mem.2 ⟨e, h e he, h2⟩
def Fr (W : List (Nat × Nat × Option Nat)) (μ μ' : Mem) : Prop := ∀ a j, ¬ inW W a j → μ'.1 a j = μ.1 a j ∧ μ'.2 a j = μ.2 a j
theorem Fr.rfl {W μ} : Fr W μ μ := fun _ _ _ => ⟨Eq.refl _, Eq.refl _⟩
theorem Fr.trans {W a b c} (h : Fr W a b) (k : Fr W b c) : Fr W a c := fun x j hx => ⟨(k x j hx).1.trans (h x j hx).1, (k x j hx).2.trans (h x j hx).2⟩
theorem Fr.mono {W1 W2 a b} (h : Fr W1 a b) (k : ∀ x j, inW W1 x j → inW W2 x j) : Fr W2 a b := fun x j hx => h x j (fun hy => hx (k x j hy))
theorem Fr.wI {W μ0 μ a j v} (h : Fr W μ0 μ) (k : inW W a j) : Fr W μ0 (wI μ a j v) := by
  intro b i hb
  refine ⟨?_, (h b i hb).2⟩
  show (if b = a ∧ i = j then v else μ.1 b i) = _
  split
  · next e => rw [e.1, e.2] at hb; exact absurd k hb
  · exact (h b i hb).1
theorem Fr.wJ {W μ0 μ a j v} (h : Fr W μ0 μ) (k : inW W a j) : Fr W μ0 (wJ μ a j v) := by
  intro b i hb
  refine ⟨(h b i hb).1, ?_⟩
  show (if b = a ∧ i = j then v else μ.2 b i) = _
  split
  · next e => rw [e.1, e.2] at hb; exact absurd k hb
  · exact (h b i hb).2
def FrO (W : List (Nat × Nat × Option Nat)) (μ0 : Mem) {R : Type} (g : R → Mem) (o : Option R) : Prop := ∀ q, o = some q → Fr W μ0 (g q)
theorem fr_none {W μ0} {R : Type} {g : R → Mem} : FrO W μ0 g none := fun _ h => nomatch h
theorem fr_ret {W μ0} {R : Type} {g : R → Mem} {q : R} (h : Fr W μ0 (g q)) : FrO W μ0 g (some q) := by
  intro q' e; cases e; exact h
theorem fr_if {W μ0} {R : Type} {g : R → Mem} {c : Prop} [Decidable c] {x y : Option R} (h1 : FrO W μ0 g x) (h2 : FrO W μ0 g y) : FrO W μ0 g (if c then x else y) := by
  split
  · exact h1
  · exact h2
theorem fr_g {W μ0} {R : Type} {g : R → Mem} {c : Prop} [Decidable c] {x : Option R} (h1 : FrO W μ0 g x) : FrO W μ0 g (if c then x else none) := fr_if h1 fr_none
theorem fr_gn {W μ0} {R : Type} {g : R → Mem} {c : Prop} [Decidable c] {x : Option R} (h1 : FrO W μ0 g x) : FrO W μ0 g (if c then none else x) := fr_if fr_none h1
theorem fr_gh {W μ0} {R : Type} {g : R → Mem} {c : Prop} [Decidable c] {x : Option R} (h1 : c → FrO W μ0 g x) : FrO W μ0 g (if c then x else none) := by
  split
  · next h => exact h1 h
  · exact fr_none
theorem fr_nmv {W μ0} {R α : Type} {g : R → Mem} {a : α} {K : α → Option R} (h : ∀ x, FrO W μ0 g (K x)) : FrO W μ0 g (nm a K) := h a
theorem fr_wI {W μ0 μ} {R : Type} {g : R → Mem} {a j : Nat} {v : Int32} {K : Mem → Option R} (hm : Fr W μ0 μ) (hw : inW W a j) (h : ∀ m, Fr W μ0 m → FrO W μ0 g (K m)) : FrO W μ0 g (nm (wI μ a j v) K) := h _ (hm.wI hw)
theorem fr_wJ {W μ0 μ} {R : Type} {g : R → Mem} {a j : Nat} {v : Int64} {K : Mem → Option R} (hm : Fr W μ0 μ) (hw : inW W a j) (h : ∀ m, Fr W μ0 m → FrO W μ0 g (K m)) : FrO W μ0 g (nm (wJ μ a j v) K) := h _ (hm.wJ hw)
theorem fr_bp {W μ0} {R α : Type} {g : R → Mem} {o : Option α} {K : α → Option R} (h : ∀ x, FrO W μ0 g (K x)) : FrO W μ0 g (o.bind K) := by
  intro q e
  cases o with
  | none => cases e
  | some x => exact h x q e
theorem fr_bm {W W' μ0 μ} {R α : Type} {g : R → Mem} {o : Option (α × Mem)} {K : α × Mem → Option R} (ho : FrO W' μ Prod.snd o) (hm : Fr W μ0 μ) (hs : ∀ a j, inW W' a j → inW W a j) (h : ∀ x, Fr W μ0 x.2 → FrO W μ0 g (K x)) : FrO W μ0 g (o.bind K) := by
  intro q e
  cases o with
  | none => cases e
  | some x => exact h x (hm.trans ((ho x (Eq.refl _)).mono hs)) q e
theorem fr_bv {W W' μ0 μ} {R : Type} {g : R → Mem} {o : Option Mem} {K : Mem → Option R} (ho : FrO W' μ id o) (hm : Fr W μ0 μ) (hs : ∀ a j, inW W' a j → inW W a j) (h : ∀ x, Fr W μ0 x → FrO W μ0 g (K x)) : FrO W μ0 g (o.bind K) := by
  intro q e
  cases o with
  | none => cases e
  | some x => exact h x (hm.trans ((ho x (Eq.refl _)).mono hs)) q e
def WX4_readSum (t1 : Nat) : List (Nat × Nat × Option Nat) := [(3, 1, some 0), (3, 1, some 3), (t1, 1, some 3), ((t1 + 1), 1, none), ((t1 + 2), 1, none)]
