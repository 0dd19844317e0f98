/-! ===== the pure machine: roles of cells, their layout, the memory ===== -/
abbrev Mem : Type := (Nat → Nat → Int32) × (Nat → Nat → Int64)
abbrev PS : Type := Mem × (Nat → Nat → Option Nat) × Nat
/-- a world: where its own cells begin, the address of a role, the classes' numbers, the array classes, the heap before it -/
abbrev Wd : Type := Nat × (Nat → Nat) × va_G × (Nat → ClassId) × Heap
/-- a method: its name, its bytes, its locals, what it returns -/
abbrev MR : Type := MethodName × ByteArray × Nat × Option FieldType
abbrev clsL : List vw_C := [(RX0, TX0, 3), (RX1, TX1, 2), (RX2, TX2, 4), (RX3, TX3, 3), (RX4, TX4, 6), (RX5, TX5, 7), (RX6, TX6, 2), (RX7, TX7, 17), (RX8, TX8, 5), (RX9, TX9, 3), (RX10, TX10, 12), (RX11, TX11, 67)]
def fty (ci j : Nat) : FieldType := match ci with
  | 0 => tyX0 j
  | 1 => tyX1 j
  | 2 => tyX2 j
  | 3 => tyX3 j
  | 4 => tyX4 j
  | 5 => tyX5 j
  | 6 => tyX6 j
  | 7 => tyX7 j
  | 8 => tyX8 j
  | 9 => tyX9 j
  | 10 => tyX10 j
  | _ => tyX11 j
def isRt : FieldType → Bool
  | .array _ => true
  | .object _ => true
  | _ => false
def aty : Nat → FieldType
  | 0 => .int
  | 1 => .long
  | 2 => .byte
  | 3 => .boolean
  | 4 => .object RX5
  | _ => .array .int
def layL : List (Nat ⊕ (Nat × Nat)) := [.inl 10, .inl 6, .inr (2, 2000), .inl 4, .inl 8, .inr (0, 402), .inr (0, 402), .inr (1, 402), .inr (1, 21), .inl 5, .inr (0, 4), .inr (0, 4), .inr (0, 7), .inl 5, .inr (0, 4), .inr (0, 4), .inr (0, 7), .inl 9, .inr (4, 40), .inl 5, .inr (0, 4), .inr (0, 4), .inr (0, 7), .inl 5, .inr (0, 4), .inr (0, 4), .inr (0, 7), .inl 5, .inr (0, 4), .inr (0, 4), .inr (0, 7), .inl 5, .inr (0, 4), .inr (0, 4), .inr (0, 7), .inl 5, .inr (0, 4), .inr (0, 4), .inr (0, 7), .inl 5, .inr (0, 4), .inr (0, 4), .inr (0, 7), .inl 5, .inr (0, 4), .inr (0, 4), .inr (0, 7), .inl 5, .inr (0, 4), .inr (0, 4), .inr (0, 7), .inl 5, .inr (0, 4), .inr (0, 4), .inr (0, 7), .inl 5, .inr (0, 4), .inr (0, 4), .inr (0, 7), .inl 5, .inr (0, 4), .inr (0, 4), .inr (0, 7), .inl 5, .inr (0, 4), .inr (0, 4), .inr (0, 7), .inl 5, .inr (0, 4), .inr (0, 4), .inr (0, 7), .inl 5, .inr (0, 4), .inr (0, 4), .inr (0, 7), .inl 5, .inr (0, 4), .inr (0, 4), .inr (0, 7), .inl 5, .inr (0, 4), .inr (0, 4), .inr (0, 7), .inl 5, .inr (0, 4), .inr (0, 4), .inr (0, 7), .inl 5, .inr (0, 4), .inr (0, 4), .inr (0, 7), .inl 5, .inr (0, 4), .inr (0, 4), .inr (0, 7), .inl 5, .inr (0, 4), .inr (0, 4), .inr (0, 7), .inl 5, .inr (0, 4), .inr (0, 4), .inr (0, 7), .inl 5, .inr (0, 4), .inr (0, 4), .inr (0, 7), .inl 5, .inr (0, 4), .inr (0, 4), .inr (0, 7), .inl 5, .inr (0, 4), .inr (0, 4), .inr (0, 7), .inl 5, .inr (0, 4), .inr (0, 4), .inr (0, 7), .inl 5, .inr (0, 4), .inr (0, 4), .inr (0, 7), .inl 5, .inr (0, 4), .inr (0, 4), .inr (0, 7), .inl 5, .inr (0, 4), .inr (0, 4), .inr (0, 7), .inl 5, .inr (0, 4), .inr (0, 4), .inr (0, 7), .inl 5, .inr (0, 4), .inr (0, 4), .inr (0, 7), .inl 5, .inr (0, 4), .inr (0, 4), .inr (0, 7), .inl 5, .inr (0, 4), .inr (0, 4), .inr (0, 7), .inl 5, .inr (0, 4), .inr (0, 4), .inr (0, 7), .inl 5, .inr (0, 4), .inr (0, 4), .inr (0, 7), .inl 5, .inr (0, 4), .inr (0, 4), .inr (0, 7), .inl 5, .inr (0, 4), .inr (0, 4), .inr (0, 7), .inl 5, .inr (0, 4), .inr (0, 4), .inr (0, 7), .inl 5, .inr (0, 4), .inr (0, 4), .inr (0, 7), .inl 5, .inr (0, 4), .inr (0, 4), .inr (0, 7), .inl 5, .inr (0, 4), .inr (0, 4), .inr (0, 7), .inr (4, 3), .inl 1, .inr (0, 9), .inr (0, 16), .inl 3, .inr (5, 4), .inr (0, 128), .inr (0, 128), .inr (0, 128), .inr (0, 128), .inr (5, 5), .inr (0, 128), .inr (0, 128), .inr (0, 128), .inr (0, 128), .inr (0, 128), .inr (0, 7), .inl 0, .inr (0, 20), .inr (3, 20), .inl 7, .inr (0, 4), .inr (0, 4), .inr (0, 7), .inr (0, 7), .inr (0, 7), .inl 2, .inr (0, 408), .inr (0, 408), .inr (0, 4), .inr (0, 7), .inr (1, 7), .inr (3, 128), .inr (0, 7), .inr (1, 4), .inr (1, 7), .inl 7, .inr (0, 4), .inr (0, 4), .inr (0, 7), .inr (0, 7), .inr (0, 7), .inl 2, .inr (0, 408), .inr (0, 408), .inr (0, 4), .inr (0, 7), .inr (1, 7), .inr (3, 128), .inr (0, 7), .inr (1, 4), .inr (1, 7), .inl 5, .inr (0, 4), .inr (0, 4), .inr (0, 7), .inl 5, .inr (0, 4), .inr (0, 4), .inr (0, 7), .inl 5, .inr (0, 4), .inr (0, 4), .inr (0, 7), .inl 11, .inr (2, 2000), .inr (2, 2000), .inr (0, 403), .inr (0, 403), .inr (0, 403), .inr (1, 403), .inr (1, 21), .inr (1, 11), .inr (0, 11), .inr (0, 2), .inr (0, 8), .inr (0, 8), .inr (0, 2), .inr (0, 14), .inr (0, 14), .inr (0, 14), .inr (0, 14), .inr (0, 2), .inr (0, 2), .inr (0, 2), .inr (0, 8), .inr (0, 8), .inr (3, 260), .inr (0, 260), .inr (0, 260), .inr (0, 260), .inr (0, 260), .inr (0, 840), .inr (0, 840), .inr (0, 64), .inr (0, 9), .inr (0, 400), .inr (0, 31), .inr (0, 31), .inr (0, 7), .inr (0, 4), .inr (0, 1240), .inr (0, 512), .inr (0, 640), .inr (3, 2048), .inr (0, 128), .inr (0, 20), .inr (3, 20), .inr (3, 3), .inr (0, 93)]
def lay (k : Nat) : Nat ⊕ (Nat × Nat) := layL.getD k (.inr (9, 0))
abbrev NF : Nat := 289
def nfl (ci : Nat) : Nat := match clsL[ci]? with
  | some c => c.2.2
  | none => 0
def szK : Nat ⊕ (Nat × Nat) → Nat
  | .inl ci => nfl ci
  | .inr q => q.2
def szs : Nat → Nat
  | 0 => 0
  | n + 1 => szs n + szK (lay n)
theorem szs_mono {a b : Nat} (h : a ≤ b) : szs a ≤ szs b := by
  induction h with
  | refl => exact Nat.le_refl _
  | step _ ih => exact Nat.le_trans ih (Nat.le_add_right _ _)
theorem layL_len : layL.length = NF := by decide +kernel
theorem lay_lt {k : Nat} (h : ¬ lay k = .inr (9, 0)) : k < NF := by
  rcases Nat.lt_or_ge k NF with h1 | h1
  · exact h1
  · exfalso
    apply h
    unfold lay
    rw [List.getD_eq_getElem?_getD, List.getElem?_eq_none (by rw [layL_len]; exact h1)]
    rfl
theorem lay_inl {k ci : Nat} (h : lay k = .inl ci) : k < NF := lay_lt (by rw [h]; exact fun q => by cases q)
theorem lay_inr {k ty n : Nat} (h : lay k = .inr (ty, n)) (ht : ty ≠ 9) : k < NF := lay_lt (by rw [h]; intro q; cases q; exact ht rfl)
/-- the words that every method has: those of the tables that a call keeps -/
def WL : List Cond := lw_tbl.filter goodWord
theorem wl_in {w : Cond} (h : w ∈ lw_tbl) (hg : goodWord w = true) : w ∈ WL := List.mem_filter.mpr ⟨h, hg⟩
theorem wl_t {w : Cond} (i : Nat) (h : tables_1[i]? = some w) (hg : goodWord w = true) : w ∈ WL := wl_in (List.mem_append_right _ (List.mem_of_getElem? h)) hg
theorem wl_s {w : Cond} (i : Nat) (h : (k2_sels lw_privs)[i]? = some w) (hg : goodWord w = true) : w ∈ WL := wl_in (List.mem_append_left _ (List.mem_of_getElem? h)) hg
theorem wl_good {w : Cond} (h : w ∈ WL) : goodWord w = true := (List.mem_filter.mp h).2
theorem wl_goodIn {big ws : List Cond} (hb : ∀ w ∈ WL, w ∈ big) (hs : ∀ w ∈ ws, w ∈ WL) : GoodIn big ws := fun w h => ⟨hb w (hs w h), good_of_word (wl_good (hs w h))⟩
theorem mem_places {big ws : List Cond} (ps : List Nat) (hp : ws = ps.filterMap (fun i => big[i]?)) : ∀ w ∈ ws, w ∈ big := by
  intro w hw
  rw [hp] at hw
  obtain ⟨i, -, hi⟩ := List.mem_filterMap.mp hw
  exact List.mem_of_getElem? hi
theorem wl_all {ws : List Cond} (ps : List Nat) (hp : ws = ps.filterMap (fun i => tables_1[i]?)) (hg : ws.all goodWord = true) : ∀ w ∈ ws, w ∈ WL := fun w hw => wl_in (List.mem_append_right _ (mem_places ps hp w hw)) (List.all_eq_true.mp hg w hw)
def vmp (w : Wd) : Value → Value
  | .ref k => .ref (w.2.1 k)
  | v => v
theorem vmp_cat (w : Wd) (v : Value) : (vmp w v).category = v.category := by cases v <;> rfl
theorem vmp_sum (w : Wd) (st : List Value) : ((st.map (vmp w)).map fun v => v.category).sum = (st.map fun v => v.category).sum := by
  rw [List.map_map]
  congr 1
  apply List.map_congr_left
  intro v _
  exact vmp_cat w v
abbrev inb (i : Int32) (n : Nat) : Prop := ¬ (i < 0 ∨ n ≤ i.toNatClampNeg)
def wI (μ : Mem) (a j : Nat) (v : Int32) : Mem := (fun b k => if b = a ∧ k = j then v else μ.1 b k, μ.2)
def wJ (μ : Mem) (a j : Nat) (v : Int64) : Mem := (μ.1, fun b k => if b = a ∧ k = j then v else μ.2 b k)
def wR (r : Nat → Nat → Option Nat) (a j : Nat) (v : Option Nat) : Nat → Nat → Option Nat := fun b k => if b = a ∧ k = j then v else r b k
/-- role n is new: all zeros -/
def zM (μ : Mem) (n : Nat) : Mem := (fun b k => if b = n then 0 else μ.1 b k, fun b k => if b = n then 0 else μ.2 b k)
def zR (r : Nat → Nat → Option Nat) (n : Nat) : Nat → Nat → Option Nat := fun b k => if b = n then none else r b k
def fv (w : Wd) (σ : PS) (k ci j : Nat) : Value := if isRt (fty ci j) = true then va_rf ((σ.2.1 k j).map w.2.1) else .int (σ.1.1 k j)
def av (w : Wd) (σ : PS) (k ty j : Nat) : Value := if ty = 1 then .long (σ.1.2 k j) else if ty ≤ 3 then .int (σ.1.1 k j) else va_rf ((σ.2.1 k j).map w.2.1)
def cellR (w : Wd) (σ : PS) (H : Heap) (k : Nat) : Prop := match lay k with
  | .inl ci => t_OB (w.2.1 k) (w.2.2.1.1 ci) (nfl ci) (w.2.2.1.2 ci) H (fun j => fv w σ k ci j)
  | .inr q => H[w.2.1 k]? = some (arrV (w.2.2.2.1 q.1) q.2 (fun j => av w σ k q.1 j))
def Rel (w : Wd) (σ : PS) (H : Heap) : Prop := σ.2.2 ≤ NF ∧ (∀ k, k < σ.2.2 → cellR w σ H k) ∧ (∀ a : Nat, a < w.1 → H[a]? = w.2.2.2.2[a]?) ∧ w.1 ≤ H.size ∧ ∀ j, σ.2.2 + j < NF → w.2.1 (σ.2.2 + j) = H.size + j
def WOK (w : Wd) : Prop := (∀ i j, i < NF → j < NF → w.2.1 i = w.2.1 j → i = j) ∧ ∀ k, k < NF → w.1 ≤ w.2.1 k
def tysW (w : Wd) : List (ClassId × FieldType) := [(w.2.2.2.1 0, .int), (w.2.2.2.1 1, .long), (w.2.2.2.1 2, .byte), (w.2.2.2.1 3, .boolean), (w.2.2.2.1 4, .object RX5), (w.2.2.2.1 5, .array .int)]
def nestL : List Cond := [.methodLinkNest RX10 11 yX6_init RX10, .methodLinkNest RX10 18 yX4_init RX10, .methodLinkNest RX10 25 yX5_init RX10, .methodLinkNest RX10 46 yX1_init RX10, .methodLinkNest RX10 53 yX3_init RX10, .methodLinkNest RX10 60 yX0_init RX10, .methodLinkNest RX7 45 yX2_init RX10, .methodLinkNest RX9 24 yX5_init RX10]
def txW : String := "sunday guest foes pays rests wears sells death seed if then else fee hours hour rested worn worth week which others "
def txS : String := ";=+-*/<()"
def byW : List Int32 := [115, 117, 110, 100, 97, 121, 32, 103, 117, 101, 115, 116, 32, 102, 111, 101, 115, 32, 112, 97, 121, 115, 32, 114, 101, 115, 116, 115, 32, 119, 101, 97, 114, 115, 32, 115, 101, 108, 108, 115, 32, 100, 101, 97, 116, 104, 32, 115, 101, 101, 100, 32, 105, 102, 32, 116, 104, 101, 110, 32, 101, 108, 115, 101, 32, 102, 101, 101, 32, 104, 111, 117, 114, 115, 32, 104, 111, 117, 114, 32, 114, 101, 115, 116, 101, 100, 32, 119, 111, 114, 110, 32, 119, 111, 114, 116, 104, 32, 119, 101, 101, 107, 32, 119, 104, 105, 99, 104, 32, 111, 116, 104, 101, 114, 115, 32]
def byS : List Int32 := [59, 61, 43, 45, 42, 47, 60, 40, 41]
/-- the texts of the class, and the statics of the JDK that are read: in the heap before the world. Roles 1001, 1003: the texts; 1002, 1004: their bytes -/
def EX (w : Wd) (s : State) : Prop := vk_R RX8 29 txW (w.2.1 1001) s ∧ vk_R RX8 76 txS (w.2.1 1003) s ∧ vk_S 2 [116, 9] [byW, byS] (fun i => w.2.1 (1001 + 2 * i)) (fun i => w.2.1 (1002 + 2 * i)) (fun q => w.1 ≤ q) s w.2.2.2.2 ∧ va_Z RJ0 "COMPACT_STRINGS" "Z" (.int 1) (fun q => w.1 ≤ q) s w.2.2.2.2 ∧ va_Zq RJ3 "SIOOBE_FORMATTER" "Ljava/util/function/BiFunction;" (fun q => w.1 ≤ q) s w.2.2.2.2 ∧ ∃ (L : Nat) (xs : Nat → Int32), va_X (w.2.1 1000) L xs s w.2.2.2.2 ∧ w.2.1 1000 < w.1
def AOI (U : State) : Prop := (Cond.arrayOver (.array .int)).before #[] U = true
theorem AOI.moved {u U : State} (hvm : u.vm.Alike U.vm) (h : AOI u) : AOI U := by
  obtain ⟨comp, c, k, h1, h2, h3, h4, h5⟩ := arrayOverA_spec h
  obtain ⟨k', hk', he⟩ := hvm.2.2 _ _ h3
  have hkind : k'.kind = .array comp (.array .int) := by rw [he]; exact h4
  have f1 : U.vm.findClass (FieldType.array .int).toString = some comp := by rw [hvm.findClass]; exact h1
  have f2 : U.vm.findClass ("[" ++ (FieldType.array .int).toString) = some c := by rw [hvm.findClass]; exact h5
  have hi := (hvm.findIdx?_eq (fun x => match x.kind with | .array component _ => component == comp | _ => false) (fun _ => rfl)).trans h2
  unfold AOI Cond.before Cond.holds
  simp only [Cond.value]
  rw [f1, Option.bind_some]
  refine Eq.trans (congrArg (fun o : Option Nat => (o.bind (fun c => (U.vm.classes[c]?).map fun (k : Class) => match k.kind with | .array _ ty => decide (ty = FieldType.array .int) && decide (U.vm.findClass ("[" ++ (FieldType.array .int).toString) = some c) | _ => false) == some true)) hi) ?_
  simp [hk', hkind, f2]
def KOK (w : Wd) (s : State) : Prop := va_K w.2.2.1 clsL (tysW w) s ∧ (∀ x ∈ nestL, va_Nw x s) ∧ (va_AO RX5 s ∧ AOI s) ∧ EX w s
def FrOK (M : MR) (w : Wd) (p : Program) (s : State) (m : MethodId) (args : Array Value) (meth : Method) (c : Code) : Prop :=
  p.tables.exec = Jvm.exec ∧ c.code = M.2.1 ∧ c.maxLocals = M.2.2.1 ∧ s.vm.findClass M.1.cls = some m.cls ∧ (∀ x ∈ WL, x.before args s = true) ∧ meth.sig.returnType = M.2.2.2 ∧ meth.locks = false ∧ meth.name = M.1.name ∧ KOK w s
def RmOK (R : Room) (d n0 n1 : Nat) : Prop := d ≤ R.frames ∧ 80 * d ≤ R.locals ∧ n1 - n0 ≤ R.cells ∧ szs n1 - szs n0 ≤ R.slots
def LcOK (w : Wd) (nL : Nat) (L : List (Nat × Value)) (ls : Array Slot) : Prop := lv_has ls nL (L.map (fun q => (q.1, vmp w q.2)))
def QcO (w : Wd) (n1 : Nat) (Q : Option Value → PS → Prop) : Array Value → State → Outcome → State → Prop := fun _ _ o t => ∃ (r : Option Value) (σ' : PS), Q r σ' ∧ σ'.2.2 = n1 ∧ o = .returned (r.map (vmp w)) ∧ Rel w σ' t.heap
/-- from pc on, with these locals, this stack, this memory: the method returns, and Q holds of its answer and the memory -/
def RW (M : MR) (d n0 n1 pc : Nat) (L : List (Nat × Value)) (st : List Value) (σ : PS) (Q : Option Value → PS → Prop) : Prop :=
  ∀ (w : Wd) (p : Program) (l : Launch) (e : Env) (R : Room) (s : State) (m : MethodId) (args : Array Value) (below : List Frame) (meth : Method) (c : Code) (H : Heap) (locs : List Loc) (ls : Array Slot),
    WOK w → FrOK M w p s m args meth c → RmOK R d n0 n1 → Rel w σ H → (n0 ≤ σ.2.2 ∧ σ.2.2 ≤ n1 ∧ n1 ≤ NF) → (∀ q ∈ locs, w.1 ≤ q.base) → LcOK w M.2.2.1 L ls →
    W p l e R s m args below meth c H locs (σ.2.2 - n0) (szs σ.2.2 - szs n0) (MQ below (QcO w n1 Q) args s (n1 - n0) (szs n1 - szs n0) (fun a => w.1 ≤ a)) (F0 m pc ls (st.map (vmp w)))
def stoI (i : Nat) (v : Value) : List (Nat × Value) → List (Nat × Value)
  | [] => [(i, v)]
  | q :: L => if q.1 < i then q :: stoI i v L else (i, v) :: q :: L
def sto1 (i : Nat) (v : Value) (L : List (Nat × Value)) : List (Nat × Value) := stoI i v (L.filter (fun q => !(q.1 == i) && !(q.1 + 1 == i && q.2.category == 2)))
def sto2 (i : Nat) (v : Value) (L : List (Nat × Value)) : List (Nat × Value) := stoI i v (L.filter (fun q => !(q.1 == i) && (!(q.1 == i + 1) && !(q.1 + 1 == i && q.2.category == 2))))
theorem stoI_mem {i : Nat} {v : Value} : ∀ {L : List (Nat × Value)} {q : Nat × Value}, q ∈ stoI i v L → q = (i, v) ∨ q ∈ L
  | [], q, h => Or.inl (List.mem_singleton.mp h)
  | x :: L, q, h => by
    unfold stoI at h
    split at h
    · rcases List.mem_cons.mp h with h | h
      · exact Or.inr (by rw [h]; exact List.mem_cons_self)
      · rcases stoI_mem h with h | h
        · exact Or.inl h
        · exact Or.inr (List.mem_cons_of_mem _ h)
    · rcases List.mem_cons.mp h with h | h
      · exact Or.inl h
      · exact Or.inr h
theorem lv_less {ls : Array Slot} {nL : Nat} {l l' : List (Nat × Value)} (h : lv_has ls nL l) (hs : ∀ q ∈ l', q ∈ l) : lv_has ls nL l' := ⟨h.1, h.2.1, fun q hq => h.2.2 q (hs q hq)⟩
theorem lc_sto1 {w : Wd} {nL i : Nat} {v : Value} {L : List (Nat × Value)} {ls : Array Slot} (h : lv_has ls nL ((i, vmp w v) :: (L.map (fun q => (q.1, vmp w q.2))).filter (fun q => !(q.1 == i) && !(q.1 + 1 == i && q.2.category == 2)))) : LcOK w nL (sto1 i v L) ls := by
  refine lv_less h fun q hq => ?_
  obtain ⟨x, hx, rfl⟩ := List.mem_map.mp hq
  rcases stoI_mem hx with rfl | hx
  · exact List.mem_cons_self
  · obtain ⟨h1, h2⟩ := List.mem_filter.mp hx
    refine List.mem_cons_of_mem _ (List.mem_filter.mpr ⟨List.mem_map.mpr ⟨x, h1, rfl⟩, ?_⟩)
    rw [vmp_cat]
    exact h2
theorem lc_sto2 {w : Wd} {nL i : Nat} {v : Value} {L : List (Nat × Value)} {ls : Array Slot} (h : lv_has ls nL ((i, vmp w v) :: (L.map (fun q => (q.1, vmp w q.2))).filter (fun q => !(q.1 == i) && (!(q.1 == i + 1) && !(q.1 + 1 == i && q.2.category == 2))))) : LcOK w nL (sto2 i v L) ls := by
  refine lv_less h fun q hq => ?_
  obtain ⟨x, hx, rfl⟩ := List.mem_map.mp hq
  rcases stoI_mem hx with rfl | hx
  · exact List.mem_cons_self
  · obtain ⟨h1, h2⟩ := List.mem_filter.mp hx
    refine List.mem_cons_of_mem _ (List.mem_filter.mpr ⟨List.mem_map.mpr ⟨x, h1, rfl⟩, ?_⟩)
    rw [vmp_cat]
    exact h2
theorem lc_get {w : Wd} {nL i : Nat} {v : Value} {L : List (Nat × Value)} {ls : Array Slot} (h : LcOK w nL L ls) (k : Nat) (hk : L[k]? = some (i, v)) : ls[i]? = some (.val (vmp w v)) := lv_at h k (by rw [List.getElem?_map, hk]; rfl)
theorem cellR_congr {w : Wd} {σ σ' : PS} {H H' : Heap} {k : Nat} (h : cellR w σ H k) (hH : H'[w.2.1 k]? = H[w.2.1 k]?) (hi : ∀ j, σ'.1.1 k j = σ.1.1 k j) (hj : ∀ j, σ'.1.2 k j = σ.1.2 k j) (hr : ∀ j, σ'.2.1 k j = σ.2.1 k j) : cellR w σ' H' k := by
  unfold cellR at h ⊢
  split
  · rename_i ci hl
    rw [hl] at h
    have e : (fun j => fv w σ' k ci j) = (fun j => fv w σ k ci j) := by funext j; simp only [fv, hi, hr]
    show t_OB _ _ _ _ H' (fun j => fv w σ' k ci j)
    rw [e]
    exact h.kept hH
  · rename_i q hl
    rw [hl] at h
    have e : (fun j => av w σ' k q.1 j) = (fun j => av w σ k q.1 j) := by funext j; simp only [av, hi, hj, hr]
    show H'[_]? = some (arrV _ _ (fun j => av w σ' k q.1 j))
    rw [e, hH]
    exact h
theorem Rel.put {w : Wd} {σ σ' : PS} {H H' : Heap} {a : Nat} (hw : WOK w) (h : Rel w σ H) (ha : a < σ.2.2) (hz : H'.size = H.size) (ho : ∀ q : Nat, q ≠ w.2.1 a → H'[q]? = H[q]?) (hs : σ'.2.2 = σ.2.2) (hc : cellR w σ' H' a)
    (hk : ∀ k j, k ≠ a → σ'.1.1 k j = σ.1.1 k j ∧ σ'.1.2 k j = σ.1.2 k j ∧ σ'.2.1 k j = σ.2.1 k j) : Rel w σ' H' := by
  obtain ⟨h1, h2, h3, h4, h5⟩ := h
  refine ⟨by rw [hs]; exact h1, fun k hk' => ?_, fun q hq => ?_, by rw [hz]; exact h4, fun j hj => ?_⟩
  · rw [hs] at hk'
    by_cases e : k = a
    · subst e; exact hc
    · refine cellR_congr (h2 k hk') (ho _ fun q => e (hw.1 k a (by omega) (by omega) q)) (fun j => (hk k j e).1) (fun j => (hk k j e).2.1) (fun j => (hk k j e).2.2)
  · rw [ho q (by have := hw.2 a (by omega); omega)]
    exact h3 q hq
  · rw [hs] at hj ⊢
    rw [hz]
    exact h5 j hj
theorem Rel.push {w : Wd} {σ σ' : PS} {H H' : Heap} (h : Rel w σ H) (hn : σ.2.2 < NF) (hz : H'.size = H.size + 1) (ho : ∀ q : Nat, q < H.size → H'[q]? = H[q]?) (hs : σ'.2.2 = σ.2.2 + 1) (hc : w.2.1 σ.2.2 = H.size → cellR w σ' H' σ.2.2)
    (hk : ∀ k j, k ≠ σ.2.2 → σ'.1.1 k j = σ.1.1 k j ∧ σ'.1.2 k j = σ.1.2 k j ∧ σ'.2.1 k j = σ.2.1 k j) : Rel w σ' H' ∧ w.2.1 σ.2.2 = H.size := by
  obtain ⟨h1, h2, h3, h4, h5⟩ := h
  have e0 : w.2.1 σ.2.2 = H.size := h5 0 hn
  refine ⟨⟨by omega, fun k hk' => ?_, fun q hq => ?_, by omega, fun j hj => ?_⟩, e0⟩
  · rw [hs] at hk'
    by_cases e : k = σ.2.2
    · subst e; exact hc e0
    · have hk2 := h2 k (by omega)
      have hlt : w.2.1 k < H.size := by
        unfold cellR at hk2
        split at hk2
        · obtain ⟨cell, q, -⟩ := hk2
          exact (Array.getElem?_eq_some_iff.mp q).1
        · exact (Array.getElem?_eq_some_iff.mp hk2).1
      exact cellR_congr hk2 (ho _ hlt) (fun j => (hk k j e).1) (fun j => (hk k j e).2.1) (fun j => (hk k j e).2.2)
  · rw [ho q (by omega)]
    exact h3 q hq
  · rw [hs] at hj ⊢
    have := h5 (j + 1) (by omega)
    rw [show σ.2.2 + 1 + j = σ.2.2 + (j + 1) by omega, this]
    omega
theorem Rel.obj {w : Wd} {σ : PS} {H : Heap} {a ci : Nat} (h : Rel w σ H) (ha : a < σ.2.2) (hl : lay a = .inl ci) : t_OB (w.2.1 a) (w.2.2.1.1 ci) (nfl ci) (w.2.2.1.2 ci) H (fun j => fv w σ a ci j) := by
  have := h.2.1 a ha
  unfold cellR at this
  rw [hl] at this
  exact this
theorem Rel.arr {w : Wd} {σ : PS} {H : Heap} {a ty n : Nat} (h : Rel w σ H) (ha : a < σ.2.2) (hl : lay a = .inr (ty, n)) : H[w.2.1 a]? = some (arrV (w.2.2.2.1 ty) n (fun j => av w σ a ty j)) := by
  have := h.2.1 a ha
  unfold cellR at this
  rw [hl] at this
  exact this
theorem cellR_obj {w : Wd} {σ : PS} {H : Heap} {a ci : Nat} (hl : lay a = .inl ci) (h : t_OB (w.2.1 a) (w.2.2.1.1 ci) (nfl ci) (w.2.2.1.2 ci) H (fun j => fv w σ a ci j)) : cellR w σ H a := by
  unfold cellR
  rw [hl]
  exact h
theorem cellR_arr {w : Wd} {σ : PS} {H : Heap} {a ty n : Nat} (hl : lay a = .inr (ty, n)) (h : H[w.2.1 a]? = some (arrV (w.2.2.2.1 ty) n (fun j => av w σ a ty j))) : cellR w σ H a := by
  unfold cellR
  rw [hl]
  exact h
theorem KOK.warm {w : Wd} {s U : State} (hW : s.WarmedH U.vm) (h : KOK w s) : KOK w U := by
  obtain ⟨h1, h2, ⟨g1, g2⟩, h3, h4, h5, h6, h7, L, xs, h8, h9⟩ := h
  refine ⟨va_K.moved hW.alike h1, fun x hx => ?_, ⟨va_AO.moved hW.alike g1, AOI.moved hW.alike g2⟩, vk_R.warm hW h3, vk_R.warm hW h4, vk_S.moved hW.alike h5, va_Z.moved hW.alike h6, ?_, L, xs, va_X.moved hW.alike h8, h9⟩
  · have := h2 x hx
    simp only [nestL, List.mem_cons, List.mem_nil_iff, or_false] at hx
    rcases hx with rfl | rfl | rfl | rfl | rfl | rfl | rfl | rfl <;> exact va_Nw.warmM hW this
  · rcases h7 with h7 | ⟨t, h7⟩
    · exact Or.inl (va_Z.moved hW.alike h7)
    · exact Or.inr ⟨t, va_Z.moved hW.alike h7⟩
theorem KOK.same {w : Wd} {s U : State} (hv : U.vm = s.vm) (h : KOK w s) : KOK w U := by
  obtain ⟨h1, h2, ⟨g1, g2⟩, h3, h4, h5, h6, h7, L, xs, h8, h9⟩ := h
  have hA : s.vm.Alike U.vm := by rw [hv]; exact Vm.Alike.refl _
  refine ⟨va_K.moved hA h1, fun x hx => ?_, ⟨va_AO.moved hA g1, AOI.moved hA g2⟩, vk_R.same hv h3, vk_R.same hv h4, vk_S.moved hA h5, va_Z.moved hA h6, ?_, L, xs, va_X.moved hA h8, h9⟩
  · have := h2 x hx
    simp only [nestL, List.mem_cons, List.mem_nil_iff, or_false] at hx
    rcases hx with rfl | rfl | rfl | rfl | rfl | rfl | rfl | rfl <;> exact va_Nw.same rfl hv.symm this
  · rcases h7 with h7 | ⟨t, h7⟩
    · exact Or.inl (va_Z.moved hA h7)
    · exact Or.inr ⟨t, va_Z.moved hA h7⟩

