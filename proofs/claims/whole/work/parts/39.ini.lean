/-! ===== the two objects, just made ===== -/
def T0 : Txt := Txt.mk 0 0 (fun _ => 0) (fun _ => 0) (fun _ => 0) (fun _ => 0) (fun _ => 0) (fun _ _ => false) 100 0 dfl (fun _ => false)
def S0 : St := St.mk (fun _ => 9) (fun _ => 0) (fun _ => false) (fun _ => 0) (fun _ => false) 0 0
def A0 : Abs := Abs.mk T0 S0 0 (fun _ => S0) (fun _ => none) 0 (fun _ => 0) (fun _ => false) 0 (fun _ => 0) (-1) 0
def iniR : Option (Mem × Mem) := (fX10_init_0 (zM μz 0)).bind fun m0 => (fX11_init (zM m0 243)).bind fun m1 => some (m0, m1)
abbrev iniP (m : Mem) : Prop :=
  (m.1 1 1 = 0 ∧ m.1 3 1 = -1 ∧ m.1 17 0 = 0 ∧ m.1 17 2 = 0 ∧ m.1 0 11 = 0 ∧ m.1 196 0 = 0) ∧
  (∀ j, j < 4 → m.1 9 j = 0) ∧ (∀ j, j < 4 → m.1 10 j = 0) ∧ (∀ j, j < 4 → m.1 11 j = 0) ∧ (∀ j, j < 7 → m.1 12 j = 0) ∧
  (m.1 199 0 = 0 ∧ m.1 199 3 = 0 ∧ m.1 199 8 = 100 ∧ m.1 199 9 = 0 ∧ m.1 211 0 = 1 ∧ m.1 205 3 = 8) ∧
  (m.1 208 0 = 0 ∧ m.1 208 1 = 2 ∧ m.1 208 2 = 4 ∧ m.1 208 3 = 6) ∧
  (m.1 206 0 = 13 ∧ m.1 206 1 = 0 ∧ m.1 206 2 = 13 ∧ m.1 206 3 = 0 ∧ m.1 206 4 = 3 ∧ m.1 206 5 = 0 ∧ m.1 206 6 = 13 ∧ m.1 206 7 = 0) ∧
  (m.1 207 0 = 0 ∧ m.1 207 2 = 1 ∧ m.1 207 4 = 1 ∧ m.1 207 6 = 5) ∧
  (∀ w, w < 21 → m.2 8 w = lN (pkw 32 (wordL.getD w []))) ∧
  (m.1 243 2 = 0 ∧ m.1 243 17 = -1 ∧ m.1 243 18 = 0 ∧ m.1 243 56 = 0 ∧ m.1 243 62 = 0) ∧
  (m.1 253 0 = 0 ∧ m.1 256 0 = 0 ∧ m.1 262 0 = 100 ∧ m.1 263 0 = 0) ∧
  (∀ k, k < 4 → m.1 264 k = 0 ∧ m.1 265 k = 0) ∧
  (∀ g, g < 7 → m.1 276 g = -2) ∧ (∀ g, g < 24 → m.1 276 (7 + g) = 0) ∧
  (∀ i, i < 3 → m.1 287 i = 0) ∧
  (∀ w, w < 21 → m.2 250 w = lN (pkw 27 (wordL.getD w [])))
theorem iniOK : (iniR.map fun q => decide (iniP q.2)) = some true := by decide +kernel
