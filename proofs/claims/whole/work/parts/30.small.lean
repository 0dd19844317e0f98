/-! ===== loops that gather bits, find the first, add up ===== -/
theorem lbits {R : Type} {L : Nat → Int32 → Int32 → Option R} {K : Int32 → Option R} (N : Nat) (p : Nat → Bool) (hN : N < 4096)
    (ht : ∀ n i m, i < N → m < 2 ^ i → p i = true → L (n + 1) (nI m) (nI i) = L n (nI (m ||| 2 ^ i)) (nI (i + 1)))
    (hf : ∀ n i m, i < N → m < 2 ^ i → p i = false → L (n + 1) (nI m) (nI i) = L n (nI m) (nI (i + 1)))
    (he : ∀ n m, m < 2 ^ N → L (n + 1) (nI m) (nI N) = K (nI m)) : L FU 0 0 = K (nI (bs p N)) := by
  have h1 := lupF (L := fun n v (a : Int32) => L n a v) (K := K) (a := nI 0) N (fun i a => a = nI (bs p i)) (fun i _ => nI (bs p (i + 1))) hN rfl
    (by
      intro n i a hi ha
      subst ha
      show L (n + 1) (nI (bs p i)) (nI i) = L n (nI (bs p (i + 1))) (nI (i + 1))
      rw [bs]
      cases hp : p i with
      | true => rw [ht n i _ hi (bs_lt p i) hp, if_pos rfl]
      | false => rw [hf n i _ hi (bs_lt p i) hp, if_neg (by decide), Nat.or_zero])
    (by intro i a hi ha; rfl)
    (by intro n a ha; subst ha; exact he n _ (bs_lt p N))
  rw [h1.2] at h1
  exact h1.1
def ffd (p : Nat → Bool) : Nat → Nat → Nat
  | 0, i => i
  | k + 1, i => if p i = true then i else ffd p k (i + 1)
theorem ffd_le (p : Nat → Bool) : ∀ k i, i ≤ ffd p k i ∧ ffd p k i ≤ i + k
  | 0, i => by simp [ffd]
  | k + 1, i => by
    have := ffd_le p k (i + 1)
    rw [ffd]
    split <;> omega
theorem ffd_no (p : Nat → Bool) : ∀ k i j, i ≤ j → j < ffd p k i → p j = false
  | 0, i, j, h1, h2 => by rw [ffd] at h2; omega
  | k + 1, i, j, h1, h2 => by
    rw [ffd] at h2
    by_cases hp : p i = true
    · rw [if_pos hp] at h2; omega
    · rw [if_neg hp] at h2
      by_cases e : i = j
      · subst e; simpa using hp
      · exact ffd_no p k (i + 1) j (by omega) h2
theorem ffd_yes (p : Nat → Bool) : ∀ k i, ffd p k i < i + k → p (ffd p k i) = true
  | 0, i, h => by rw [ffd] at h; omega
  | k + 1, i, h => by
    rw [ffd] at h ⊢
    by_cases hp : p i = true
    · rw [if_pos hp]; exact hp
    · rw [if_neg hp] at h ⊢; exact ffd_yes p k (i + 1) (by omega)
theorem ffd_eq {p : Nat → Bool} {N j : Nat} (h1 : j < N) (h2 : p j = true) (h3 : ∀ i, i < j → p i = false) : ffd p N 0 = j := by
  have a := ffd_le p N 0
  by_cases c : ffd p N 0 < j
  · have := ffd_yes p N 0 (by omega)
    rw [h3 _ c] at this; cases this
  · by_cases d : j < ffd p N 0
    · have := ffd_no p N 0 j (by omega) d
      rw [h2] at this; cases this
    · omega
theorem ffd_none {p : Nat → Bool} {N : Nat} (h3 : ∀ i, i < N → p i = false) : ffd p N 0 = N := by
  have a := ffd_le p N 0
  by_cases c : ffd p N 0 < N
  · have := ffd_yes p N 0 (by omega)
    rw [h3 _ c] at this; cases this
  · omega
theorem ffd_ext {p q : Nat → Bool} {N : Nat} (h : ∀ i, i < N → p i = q i) : ffd p N 0 = ffd q N 0 := by
  have a := ffd_le q N 0
  by_cases c : ffd q N 0 < N
  · apply ffd_eq c
    · rw [h _ c]; exact ffd_yes q N 0 (by omega)
    · intro i hi; rw [h _ (by omega)]; exact ffd_no q N 0 i (by omega) hi
  · rw [show ffd q N 0 = N by omega]
    apply ffd_none
    intro i hi; rw [h i hi]; exact ffd_no q N 0 i (by omega) (by omega)
theorem lfind_go {R : Type} {L : Nat → Int32 → Option R} {X : Option R} (N : Nat) (p : Nat → Bool) (ret : Nat → Option R)
    (ht : ∀ n i, i < N → p i = true → L (n + 1) (nI i) = ret i)
    (hf : ∀ n i, i < N → p i = false → L (n + 1) (nI i) = L n (nI (i + 1)))
    (he : ∀ n, L (n + 1) (nI N) = X) : ∀ k i n, i + k = N → L (k + 1 + n) (nI i) = if ffd p k i < N then ret (ffd p k i) else X
  | 0, i, n, e => by
    have : i = N := by omega
    subst this
    rw [ffd, if_neg (by omega), show 0 + 1 + n = n + 1 by omega, he]
  | k + 1, i, n, e => by
    rw [show k + 1 + 1 + n = (k + 1 + n) + 1 by omega, ffd]
    cases hp : p i with
    | true => rw [if_pos rfl, if_pos (by omega), ht _ i (by omega) hp]
    | false => rw [if_neg (show ¬ false = true by decide), hf _ i (by omega) hp]; exact lfind_go N p ret ht hf he k (i + 1) n (by omega)
theorem lfind {R : Type} {L : Nat → Int32 → Option R} {X : Option R} (N : Nat) (p : Nat → Bool) (ret : Nat → Option R) (hN : N < 4096)
    (ht : ∀ n i, i < N → p i = true → L (n + 1) (nI i) = ret i)
    (hf : ∀ n i, i < N → p i = false → L (n + 1) (nI i) = L n (nI (i + 1)))
    (he : ∀ n, L (n + 1) (nI N) = X) : L FU 0 = if ffd p N 0 < N then ret (ffd p N 0) else X := by
  have h := lfind_go N p ret ht hf he N 0 (4096 - (N + 1)) (by omega)
  have e : N + 1 + (4096 - (N + 1)) = FU := by unfold FU; omega
  rw [e] at h
  exact h
def smv (v : Nat → Int32) : Nat → Int32
  | 0 => 0
  | n + 1 => smv v n + v n
theorem lsum {R : Type} {L : Nat → Int32 → Int32 → Option R} {K : Int32 → Option R} (N : Nat) (v : Nat → Int32) (hN : N < 4096)
    (hs : ∀ n i a, i < N → L (n + 1) a (nI i) = L n (a + v i) (nI (i + 1)))
    (he : ∀ n a, L (n + 1) a (nI N) = K a) : L FU 0 0 = K (smv v N) := by
  have h1 := lupF (L := fun n u (a : Int32) => L n a u) (K := K) (a := (0 : Int32)) N (fun i a => a = smv v i) (fun i a => a + v i) hN rfl
    (by intro n i a hi _; exact hs n i a hi)
    (by intro i a hi ha; subst ha; rfl)
    (by intro n a _; exact he n a)
  rw [h1.2] at h1
  exact h1.1
/-! ===== the component's small questions ===== -/
theorem c_isDead {t : Nat} {S : St} {μ : Mem} (h : cS t S μ) {g : Nat} (hg : g < 7) : fX5_isDead t (nI g) μ = some (S.dd g) := by
  unfold fX5_isDead
  rw [h.dd, nI_bit (bs_lt31 _ (by omega)) (by omega)]
  have e : (bs S.dd 7).testBit g = S.dd g := by rw [bs_bit]; simp [hg]
  cases hd : S.dd g with
  | true => rw [if_pos (bit_one.2 (by rw [e, hd]))]
  | false => rw [if_neg (fun q => by have := bit_one.1 q; rw [e, hd] at this; cases this)]
theorem c_isSold {t : Nat} {S : St} {μ : Mem} (h : cS t S μ) {s : Nat} (hs : s < 4) : fX5_isSold t (nI s) μ = some (S.sd s) := by
  unfold fX5_isSold
  rw [h.sd, nI_bit (bs_lt31 _ (by omega)) (by omega)]
  have e : (bs S.sd 4).testBit s = S.sd s := by rw [bs_bit]; simp [hs]
  cases hd : S.sd s with
  | true => rw [if_pos (bit_one.2 (by rw [e, hd]))]
  | false => rw [if_neg (fun q => by have := bit_one.1 q; rw [e, hd] at this; cases this)]
theorem inB_bit {S : St} {s g : Nat} (hg : g < 7) : (inB S s).testBit g = (S.wh g == s) := by unfold inB; rw [bs_bit]; simp [hg]
theorem c_isIn {t : Nat} {S : St} {μ : Mem} (h : cS t S μ) {g s : Nat} (hg : g < 7) (hs : s < 4) : fX5_isIn t (nI g) (nI s) μ = some (S.wh g == s) := by
  unfold fX5_isIn
  rw [if_pos (inbN hs (by omega)), nI_clamp (by omega), h.wh s hs, nI_bit (show inB S s < 2 ^ 31 from bs_lt31 _ (by omega)) (by omega)]
  cases hd : (S.wh g == s) with
  | true => rw [if_pos (bit_one.2 (by rw [← hd]; exact inB_bit hg))]
  | false => rw [if_neg (fun q => by have := bit_one.1 q; rw [inB_bit hg, hd] at this; cases this)]
theorem c_whereIs {t : Nat} {S : St} {μ : Mem} (h : cS t S μ) {g : Nat} (hg : g < 7) (hw : S.wh g < 4 ∨ S.wh g = 9) : fX5_whereIs t (nI g) μ = some (whI (S.wh g)) := by
  unfold fX5_whereIs
  rw [lfind (L := fun n v => fX5_whereIs_2 t (nI g) μ (fun _ => some (-2)) n v) (X := some (-2)) 4 (fun s => S.wh g == s) (fun s => some (nI s)) (by omega)
    (by
      intro n i hi hp
      show fX5_whereIs_2 t (nI g) μ (fun _ => some (-2)) (n + 1) (nI i) = _
      rw [fX5_whereIs_2, if_pos (c_lt L_4 hi (by omega)), c_isIn h hg hi, bind_s, if_pos hp])
    (by
      intro n i hi hp
      show fX5_whereIs_2 t (nI g) μ (fun _ => some (-2)) (n + 1) (nI i) = _
      rw [fX5_whereIs_2, if_pos (c_lt L_4 hi (by omega)), c_isIn h hg hi, bind_s, if_neg (by rw [hp]; decide), nI_1])
    (by
      intro n
      show fX5_whereIs_2 t (nI g) μ (fun _ => some (-2)) (n + 1) (nI 4) = _
      rw [fX5_whereIs_2, if_neg (c_nlt L_4 (by omega) (by omega))])]
  unfold whI
  rcases hw with hw | hw
  · rw [ffd_eq (j := S.wh g) hw (by simp) (by intro i hi; simp; omega), if_pos hw, if_pos (by omega)]
  · rw [ffd_none (by intro i hi; simp; omega), if_neg (by omega), if_neg (by omega)]
theorem c_isSunday_no {A : Abs} {μ : Mem} (h : CInv A μ) {x : Int32} (hx : x < 0 ∨ nI A.T.nS ≤ x) (hn : A.T.nS ≤ 4) : fX10_isSunday x μ = some false := by
  unfold fX10_isSunday
  by_cases h1 : x < 0
  · rw [if_pos h1]
  · rw [if_neg h1, h.T.nS]
    rcases hx with hx | hx
    · exact absurd hx h1
    · obtain ⟨n, hn2, rfl⟩ := nI_of h1
      have := (nI_leI (by omega) hn2).1 hx
      rw [if_neg (nI_nlt this hn2)]
theorem c_isSunday_yes {A : Abs} {μ : Mem} (h : CInv A μ) {s : Nat} (hs : s < A.T.nS) (hn : A.T.nS ≤ 4) : fX10_isSunday (nI s) μ = some true := by
  unfold fX10_isSunday
  rw [if_neg (nI_pos (by omega)), h.T.nS, if_pos (nI_lt hs (by omega))]
theorem c_isGuest_no {A : Abs} {μ : Mem} (h : CInv A μ) {x : Int32} (hx : x < 0 ∨ nI A.T.nG ≤ x) (hn : A.T.nG ≤ 7) : fX10_isGuest x μ = some false := by
  unfold fX10_isGuest
  by_cases h1 : x < 0
  · rw [if_pos h1]
  · rw [if_neg h1, h.T.nG]
    rcases hx with hx | hx
    · exact absurd hx h1
    · obtain ⟨n, hn2, rfl⟩ := nI_of h1
      have := (nI_leI (by omega) hn2).1 hx
      rw [if_neg (nI_nlt this hn2)]
theorem c_isGuest_yes {A : Abs} {μ : Mem} (h : CInv A μ) {s : Nat} (hs : s < A.T.nG) (hn : A.T.nG ≤ 7) : fX10_isGuest (nI s) μ = some true := by
  unfold fX10_isGuest
  rw [if_neg (nI_pos (by omega)), h.T.nG, if_pos (nI_lt hs (by omega))]
