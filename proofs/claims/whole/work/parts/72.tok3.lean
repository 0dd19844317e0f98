/-! ===== the reference cuts its tape ===== -/
def kR (k : Nat) : Nat := if k = 0 then 0 else if k = 1 then 3 else if k = 2 then 1 else if k = 3 then 2 else if k = 4 then 4 else if k = 5 then 5 else if k = 6 then 8 else if k = 7 then 9 else if k = 8 then 10 else if k = 9 then 15 else if k = 10 then 13 else if k = 11 then 6 else if k = 12 then 7 else k + 7
abbrev rTp (b : Nat → Nat) (n : Nat) (μ : Mem) : Prop := μ.1 243 4 = nI n ∧ n ≤ 2000 ∧ (∀ j, b j < 256) ∧ ∀ j, j < n → μ.1 245 j = bI (b j)
def bA (b : Nat → Nat) (n i : Nat) : Nat := if i < n then b i else 0
theorem and255 : ∀ k, k < 256 → bI k &&& 255 = nI k := by decide +kernel
theorem r_byteAt {b : Nat → Nat} {n i : Nat} {μ : Mem} (h : rTp b n μ) (hi : i < 2 ^ 30) : fX11_byteAt (nI i) μ = some (nI (bA b n i)) := by
  obtain ⟨h1, h2, h3, h4⟩ := h
  unfold fX11_byteAt bA
  rw [h1]
  by_cases c : i < n
  · rw [if_pos (nI_lt c (by omega)), if_pos (inbN (by omega) (by omega)), nI_clamp (by omega), h4 i c, and255 _ (h3 i), if_pos c]
  · rw [if_neg (nI_nlt (by omega) (by omega)), if_neg c]; rfl
theorem rb_mu (a : Int32) (μ : Mem) : fX11_isLetter a μ = fX11_isLetter a m00 ∧ fX11_isDigit a μ = fX11_isDigit a m00 := ⟨rfl, rfl⟩
theorem rb_all : ∀ k, k < 256 → fX11_isLetter (nI k) m00 = some (isLtN k) ∧ fX11_isDigit (nI k) m00 = some (isDgN k) := by decide +kernel
theorem r_isLetter {k : Nat} (h : k < 256) (μ : Mem) : fX11_isLetter (nI k) μ = some (isLtN k) := by rw [(rb_mu _ μ).1]; exact (rb_all k h).1
theorem r_isDigit {k : Nat} (h : k < 256) (μ : Mem) : fX11_isDigit (nI k) μ = some (isDgN k) := by rw [(rb_mu _ μ).2]; exact (rb_all k h).2
theorem rlet_all : ∀ k, k < 256 → isLtN k = true → ((nI k - 97) + 1).toInt64 = lN (k - 96) ∧ k ≠ 0 := by decide +kernel
theorem bA_lt {b : Nat → Nat} {n i : Nat} (h : ∀ j, b j < 256) : bA b n i < 256 := by
  unfold bA
  split
  · exact h i
  · omega
theorem r_letLoop {b : Nat → Nat} {n i : Nat} {μ : Mem} {K : Int32 → Int64 → Option Mem} (h : rTp b n μ) (hi : i ≤ n) : fX11_cut_85 (nI i) μ K FU 0 0 = K (nI (leB b n i - i)) (lN (pkw 27 (ltL b i (min (leB b n i - i) 8)))) := by
  have hh := h
  obtain ⟨h1, h2, h3, h4⟩ := h
  have bd : i ≤ leB b n i ∧ leB b n i ≤ n := ffd_bd (fun j => !isLtN (b j)) hi
  obtain ⟨a, e, ia⟩ := lupX (L := fun f j (a : Int64) => fX11_cut_85 (nI i) μ K f j a) (K := fun a => K (nI (leB b n i - i)) a) (a := (0 : Int64)) (leB b n i - i) (fun j a => a = lN (pkw 27 (ltL b i (min j 8)))) (by omega) rfl
    (by
      rintro f j a hj rfl
      have lt : isLtN (b (i + j)) = true := run_lt (n := n) (i := i) (by omega) (by omega)
      have la := rlet_all (b (i + j)) (h3 _) lt
      have ea : bA b n (i + j) = b (i + j) := by unfold bA; rw [if_pos (by omega)]
      show ∃ b2, fX11_cut_85 _ _ _ _ _ _ = _ ∧ _
      rw [fX11_cut_85, nI_add, r_byteAt hh (by omega), bind_s, ea, r_isLetter (h3 _), bind_s, if_pos lt, nI_1]
      by_cases c : j < 8
      · rw [if_pos (c_lt L_8 c (by omega)), bind_s]
        unfold fX11_appends
        rw [if_neg (nI_ne0 (by omega) (by have := h3 (i + j); omega)), bind_s, la.1, show (27 : Int64) = lN 27 from rfl, lN_mul, lN_add]
        refine ⟨_, rfl, ?_⟩
        rw [Nat.min_eq_left (by omega), Nat.min_eq_left (by omega), ltL_s, pkw_app, Nat.mul_comm]
      · rw [if_neg (c_nlt L_8 (by omega) (by omega))]
        refine ⟨_, rfl, ?_⟩
        rw [Nat.min_eq_right (by omega), Nat.min_eq_right (by omega)])
    (by
      rintro f a _
      have no : isLtN (bA b n (i + (leB b n i - i))) = false := by
        rw [show i + (leB b n i - i) = leB b n i by omega]
        unfold bA
        by_cases c : leB b n i < n
        · rw [if_pos c]
          have yes := ffd_yes (fun j => !isLtN (b j)) (n - i) i (by unfold leB at c; omega)
          unfold leB; simpa using yes
        · rw [if_neg c]; rfl
      show fX11_cut_85 _ _ _ _ _ _ = _
      rw [fX11_cut_85, nI_add, r_byteAt hh (by omega), bind_s, r_isLetter (bA_lt h3), bind_s, if_neg (by rw [no]; decide)])
  rw [show fX11_cut_85 (nI i) μ K FU 0 0 = K (nI (leB b n i - i)) a from e, ia]
theorem r_digLoop {b : Nat → Nat} {n i : Nat} {μ : Mem} {K : Int32 → Int32 → Option Mem} (h : rTp b n μ) (hi : i ≤ n) : fX11_cut_208 (nI i) μ K FU 0 0 = K (nI (deB b n i - i)) (nI (dgV b i (min (deB b n i - i) 4))) := by
  have hh := h
  obtain ⟨h1, h2, h3, h4⟩ := h
  have bd : i ≤ deB b n i ∧ deB b n i ≤ n := ffd_bd (fun j => !isDgN (b j)) hi
  obtain ⟨a, e, ia⟩ := lupX (L := fun f j (a : Int32) => fX11_cut_208 (nI i) μ K f j a) (K := fun a => K (nI (deB b n i - i)) a) (a := (0 : Int32)) (deB b n i - i) (fun j a => a = nI (dgV b i (min j 4))) (by omega) rfl
    (by
      rintro f j a hj rfl
      have lt : isDgN (b (i + j)) = true := run_dg (n := n) (i := i) (by omega) (by omega)
      have la := dig_all (b (i + j)) (h3 _) lt
      have l48 : 48 ≤ b (i + j) := by unfold isDgN at lt; simp at lt; omega
      have ea : bA b n (i + j) = b (i + j) := by unfold bA; rw [if_pos (by omega)]
      show ∃ b2, fX11_cut_208 _ _ _ _ _ _ = _ ∧ _
      rw [fX11_cut_208, nI_add, r_byteAt hh (by omega), bind_s, ea, r_isDigit (h3 _), bind_s, if_pos lt, nI_1]
      by_cases c : j < 4
      · rw [if_pos (c_lt L_4 c (by omega)), bind_s, nm_ap, L_10, pk_mul, nI_add, show (48 : Int32) = nI 48 from rfl, pk_sub (by omega)]
        refine ⟨_, rfl, ?_⟩
        rw [Nat.min_eq_left (by omega), Nat.min_eq_left (by omega), dgV]
        congr 1
        rw [Nat.mul_comm]; omega
      · rw [if_neg (c_nlt L_4 (by omega) (by omega))]
        refine ⟨_, rfl, ?_⟩
        rw [Nat.min_eq_right (by omega), Nat.min_eq_right (by omega)])
    (by
      rintro f a _
      have no : isDgN (bA b n (i + (deB b n i - i))) = false := by
        rw [show i + (deB b n i - i) = deB b n i by omega]
        unfold bA
        by_cases c : deB b n i < n
        · rw [if_pos c]
          have yes := ffd_yes (fun j => !isDgN (b j)) (n - i) i (by unfold deB at c; omega)
          unfold deB; simpa using yes
        · rw [if_neg c]; rfl
      show fX11_cut_208 _ _ _ _ _ _ = _
      rw [fX11_cut_208, nI_add, r_byteAt hh (by omega), bind_s, r_isDigit (bA_lt h3), bind_s, if_neg (by rw [no]; decide)])
  rw [show fX11_cut_208 (nI i) μ K FU 0 0 = K (nI (deB b n i - i)) a from e, ia]
theorem wordL_nd : ∀ i, i < 21 → ∀ j, j < 21 → wordL.getD i [] = wordL.getD j [] → i = j := by decide +kernel
theorem kR_w {w : Nat} (h : 13 ≤ w) : kR w = w + 7 := by
  unfold kR
  rw [if_neg (by omega), if_neg (by omega), if_neg (by omega), if_neg (by omega), if_neg (by omega), if_neg (by omega), if_neg (by omega), if_neg (by omega), if_neg (by omega), if_neg (by omega), if_neg (by omega), if_neg (by omega), if_neg (by omega)]
theorem r_keyLoop {μ : Mem} {K : Int32 → Option Mem} {x y : Int32} (ws : ∀ w, w < 21 → μ.2 250 w = lN (pkw 27 (wordL.getD w []))) {l : List Nat} (h : ltOk l) : fX11_cut_146 x y (lN (pkw 27 l)) μ K FU 1 0 = K (nI (kR (wkd l))) := by
  have key : ∀ i, i < 21 → ((wordL.getD i [] = l) ↔ i = ffd (fun w => wordL.getD w [] == l) 21 0) := by
    intro i hi
    constructor
    · intro e
      refine (ffd_eq hi (by simpa using e) ?_).symm
      intro j hj
      cases q : (wordL.getD j [] == l) with
      | false => rfl
      | true =>
        have q2 : wordL.getD j [] = l := by simpa using q
        have := wordL_nd i hi j (by omega) (by rw [e, q2])
        omega
    · intro e
      have := ffd_yes (fun w => wordL.getD w [] == l) 21 0 (by omega)
      rw [← e] at this
      simpa using this
  obtain ⟨a, e, ia⟩ := lupX (L := fun f j (a : Int32) => fX11_cut_146 x y (lN (pkw 27 l)) μ K f a j) (K := K) (a := (1 : Int32)) 21 (fun j a => a = nI (if ffd (fun w => wordL.getD w [] == l) 21 0 < j then 20 + ffd (fun w => wordL.getD w [] == l) 21 0 else 1)) (by omega) (by rw [if_neg (by omega)]; rfl)
    (by
      rintro f j a hj rfl
      have bj : inb (nI j) 21 := inbN (by omega) (by omega)
      have cj : (nI j).toNatClampNeg = j := nI_clamp (by omega)
      show ∃ b2, fX11_cut_146 _ _ _ _ _ _ _ _ = _ ∧ _
      rw [fX11_cut_146, if_pos (c_lt L_21 hj (by omega))]
      simp only [if_pos bj, cj]
      rw [ws j hj, L_20, nI_add, nI_1]
      by_cases c : wordL.getD j [] = l
      · have ej := (key j hj).1 c
        rw [if_pos (by rw [c])]
        refine ⟨_, rfl, ?_⟩
        rw [← ej, if_pos (by omega)]
      · rw [if_neg (fun q => c ((pkl_eq (by omega) (by omega) ⟨wordL_ok j hj, wordL_len j hj⟩ h).1 q))]
        refine ⟨_, rfl, ?_⟩
        have ne : ffd (fun w => wordL.getD w [] == l) 21 0 ≠ j := fun q => c ((key j hj).2 q.symm)
        by_cases d : ffd (fun w => wordL.getD w [] == l) 21 0 < j
        · rw [if_pos d, if_pos (by omega)]
        · rw [if_neg d, if_neg (by omega)])
    (by
      rintro f a _
      show fX11_cut_146 _ _ _ _ _ _ _ _ = _
      rw [fX11_cut_146, if_neg (c_nlt L_21 (by omega) (by omega))])
  refine Eq.trans e ?_
  rw [ia]
  unfold wkd
  by_cases d : ffd (fun w => wordL.getD w [] == l) 21 0 < 21
  · rw [if_pos d, if_pos d, kR_w (by omega), show 20 + ffd (fun w => wordL.getD w [] == l) 21 0 = 13 + ffd (fun w => wordL.getD w [] == l) 21 0 + 7 by omega]
  · rw [if_neg d, if_neg d]; rfl
theorem r_sign {i k : Nat} {d : Int32} {μ : Mem} (hk : k < 256) : fX11_sign (nI i) (nI k) d μ = (fX11_token (nI (kR (sgN k))) (nI i) 0 0 μ).bind fun q => some (1, q) := by
  have ne : ∀ c, c < 256 → k ≠ c → ¬ nI k = nI c := fun c hc h q => h ((nI_eq (by omega) (by omega)).1 q)
  by_cases a1 : k = 59
  · subst a1; rfl
  by_cases a2 : k = 61
  · subst a2; rfl
  by_cases a3 : k = 40
  · subst a3; rfl
  by_cases a4 : k = 41
  · subst a4; rfl
  by_cases a5 : k = 43
  · subst a5; rfl
  by_cases a6 : k = 45
  · subst a6; rfl
  by_cases a7 : k = 42
  · subst a7; rfl
  by_cases a8 : k = 47
  · subst a8; rfl
  by_cases a9 : k = 60
  · subst a9; rfl
  have e : kR (sgN k) = 3 := by
    unfold sgN
    rw [if_neg a1, if_neg a2, if_neg a5, if_neg a6, if_neg a7, if_neg a8, if_neg a9, if_neg a3, if_neg a4]; rfl
  unfold fX11_sign
  rw [if_neg (show ¬ nI k = 59 from ne 59 (by omega) a1), if_neg (show ¬ nI k = 61 from ne 61 (by omega) a2), if_neg (show ¬ nI k = 40 from ne 40 (by omega) a3), if_neg (show ¬ nI k = 41 from ne 41 (by omega) a4), if_neg (show ¬ nI k = 43 from ne 43 (by omega) a5)]
  unfold fX11_sign_j55
  rw [if_neg (show ¬ nI k = 45 from ne 45 (by omega) a6), if_neg (show ¬ nI k = 42 from ne 42 (by omega) a7), if_neg (show ¬ nI k = 47 from ne 47 (by omega) a8)]
  unfold fX11_sign_j85
  rw [if_neg (show ¬ nI k = 60 from ne 60 (by omega) a9), e]
  rfl
/-- the reference's token j -/
def rTok (b : Nat → Nat) (n j : Nat) (μ : Mem) : Prop := μ.1 246 j = nI (kR (tK b n j)) ∧ μ.1 247 j = nI (tS b n j) ∧ (tK b n j = 3 → μ.1 248 j = nI (tV b n j)) ∧ (2 ≤ tK b n j → isLtN (b (tS b n j)) = true → μ.2 249 j = lN (pkw 27 (tN b n j)))
theorem r_token {k p j : Nat} {v : Int32} {w : Int64} {μ : Mem} (hj : j < 403) (h : μ.1 243 10 = nI j) : ∃ m, fX11_token (nI k) (nI p) v w μ = some m ∧ m.1 243 10 = nI (j + 1) ∧ m.1 246 j = nI k ∧ m.1 247 j = nI p ∧ m.1 248 j = v ∧ m.2 249 j = w ∧ (∀ x, x ≠ j → m.1 246 x = μ.1 246 x ∧ m.1 247 x = μ.1 247 x ∧ m.1 248 x = μ.1 248 x ∧ m.2 249 x = μ.2 249 x) := by
  have bj : inb (nI j) 403 := inbN (by omega) (by omega)
  have cj : (nI j).toNatClampNeg = j := nI_clamp (by omega)
  have e1 : (wI μ 246 j (nI k)).1 243 10 = nI j := by rw [wI_i, if_neg (by omega)]; exact h
  have e2 : (wI (wI μ 246 j (nI k)) 247 j (nI p)).1 243 10 = nI j := by rw [wI_i, if_neg (by omega)]; exact e1
  have e3 : (wI (wI (wI μ 246 j (nI k)) 247 j (nI p)) 248 j v).1 243 10 = nI j := by rw [wI_i, if_neg (by omega)]; exact e2
  have e4 : (wJ (wI (wI (wI μ 246 j (nI k)) 247 j (nI p)) 248 j v) 249 j w).1 243 10 = nI j := e3
  unfold fX11_token
  rw [h]
  simp only [if_pos bj, cj, nm_ap, e1, e2, e3, e4, nI_1]
  refine ⟨_, rfl, ?_, ?_, ?_, ?_, ?_, ?_⟩
  · rw [wI_i, if_pos ⟨rfl, rfl⟩]
  · rw [wI_i, if_neg (by omega), wJ_i, wI_i, if_neg (by omega), wI_i, if_neg (by omega), wI_i, if_pos ⟨rfl, rfl⟩]
  · rw [wI_i, if_neg (by omega), wJ_i, wI_i, if_neg (by omega), wI_i, if_pos ⟨rfl, rfl⟩]
  · rw [wI_i, if_neg (by omega), wJ_i, wI_i, if_pos ⟨rfl, rfl⟩]
  · rw [wI_l, wJ_l, if_pos ⟨rfl, rfl⟩]
  · intro x hx
    refine ⟨?_, ?_, ?_, ?_⟩
    · rw [wI_i, if_neg (by omega), wJ_i, wI_i, if_neg (by omega), wI_i, if_neg (by omega), wI_i, if_neg (by omega)]
    · rw [wI_i, if_neg (by omega), wJ_i, wI_i, if_neg (by omega), wI_i, if_neg (by omega), wI_i, if_neg (by omega)]
    · rw [wI_i, if_neg (by omega), wJ_i, wI_i, if_neg (by omega), wI_i, if_neg (by omega), wI_i, if_neg (by omega)]
    · rw [wI_l, wJ_l, if_neg (by omega)]; rfl

theorem r_cut {b : Nat → Nat} {n : Nat} {μ : Mem} (h : rTp b n μ) (ws : ∀ w, w < 21 → μ.2 250 w = lN (pkw 27 (wordL.getD w []))) : ∃ m, fX11_cut μ = some m ∧ ∀ t, t ≤ 400 → (∀ j, j < t → 2 ≤ tK b n j) → rTok b n t m := by
  obtain ⟨h1, h2, h3, h4⟩ := h
  unfold fX11_cut
  rw [nm_ap]
  have keep : ∀ m, Fr WX11_cut μ m → rTp b n m ∧ ∀ w, w < 21 → m.2 250 w = lN (pkw 27 (wordL.getD w [])) := by
    intro m f
    refine ⟨⟨by rw [(f 243 4 (by simp [WX11_cut, inW])).1]; exact h1, h2, h3, fun j hj => by rw [(f 245 j (by simp [WX11_cut, inW])).1]; exact h4 j hj⟩, fun w hw => by rw [(f 250 w (by simp [WX11_cut, inW])).2]; exact ws w hw⟩
  have sub1 : ∀ {x y}, inW WX11_token x y → inW WX11_cut x y := by intro x y; simp [WX11_token, WX11_cut, inW]; omega
  have go : ∀ f j p m, n - p < f → j ≤ 401 → ps b n j ≤ p → p ≤ tS b n j → Fr WX11_cut μ m → m.1 243 10 = nI j → (∀ x, x < j → rTok b n x m ∧ tS b n x < n) → ∃ q, fX11_cut_7 (fun μ28 => some μ28) f (nI p) m = some q ∧ ∀ t, t ≤ 400 → (∀ j, j < t → 2 ≤ tK b n j) → rTok b n t q := by
    intro f
    induction f with
    | zero => intro j p m hf; omega
    | succ f ih =>
      intro j p m hf hj hp1 hp2 mf mm mt
      obtain ⟨kp, kw⟩ := keep m mf
      have tb := tS_bd b n j
      have pn : p ≤ n := by omega
      rw [fX11_cut_7, mm]
      by_cases c4 : j = 401
      · subst c4
        rw [if_pos (by decide)]
        exact ⟨m, rfl, fun t ht _ => (mt t (by omega)).1⟩
      rw [if_neg (by rw [L_400]; exact nI_nlt (by omega) (by omega)), r_byteAt kp (by omega), bind_s, kp.1]
      by_cases c : p < n
      · rw [if_pos (nI_lt c (by omega)), show bA b n p = b p by unfold bA; rw [if_pos c]]
        have ne : ∀ z, z < 256 → b p ≠ z → ¬ nI (b p) = nI z := fun z hz q r => q ((nI_eq (by have := h3 p; omega) (by omega)).1 r)
        by_cases e : p = tS b n j
        · have nb : isBlN (b p) = false := by
            rw [e]
            have lt : tS b n j < n := by omega
            unfold tS skB at lt
            have := ffd_yes (fun j => !isBlN (b j)) (n - ps b n j) (ps b n j) (by omega)
            unfold tS skB
            simpa using this
          have nb2 : b p ≠ 9 ∧ b p ≠ 10 ∧ b p ≠ 13 ∧ b p ≠ 32 := by
            unfold isBlN at nb
            simp at nb
            omega
          rw [if_neg (show ¬ nI (b p) = 9 from ne 9 (by omega) nb2.1), if_neg (show ¬ nI (b p) = 10 from ne 10 (by omega) nb2.2.1), if_neg (show ¬ nI (b p) = 13 from ne 13 (by omega) nb2.2.2.1), if_neg (show ¬ nI (b p) = 32 from ne 32 (by omega) nb2.2.2.2), r_isLetter (h3 p), bind_s, r_isDigit (h3 p), bind_s]
          have ht : tS b n j < n := by omega
          have ep : ps b n (j + 1) = tkE b n p := by rw [ps, e]; exact if_pos ht
          have ek : tK b n j = tkK b n p := by unfold tK; rw [if_pos ht, e]
          have bd := tkE_bd (b := b) c
          have pl1 := ps_le b n (j + 1)
          have next : ∀ k v w q, fX11_token (nI k) (nI p) v w m = some q → k = kR (tK b n j) → (tK b n j = 3 → v = nI (tV b n j)) → (2 ≤ tK b n j → isLtN (b (tS b n j)) = true → w = lN (pkw 27 (tN b n j))) → ∃ q2, fX11_cut_7 (fun μ28 => some μ28) f (nI (ps b n (j + 1))) q = some q2 ∧ ∀ t, t ≤ 400 → (∀ j, j < t → 2 ≤ tK b n j) → rTok b n t q2 := by
            intro k v w q eq hk hv hw
            obtain ⟨q', e', r1, r2, r3, r4, r5, r6⟩ := r_token (k := k) (p := p) (v := v) (w := w) (j := j) (by omega) mm
            have : q' = q := by rw [eq] at e'; exact (Option.some.inj e').symm
            subst this
            have fq : Fr WX11_token m q' := frX11_token _ _ _ _ _ _ eq
            refine ih (j + 1) (ps b n (j + 1)) q' (by omega) (by omega) (Nat.le_refl _) (tS_bd b n (j + 1)).1 (mf.trans (fq.mono (fun x y => sub1))) r1 ?_
            intro x hx
            rcases (show x < j ∨ x = j by omega) with a | a
            · refine ⟨?_, (mt x a).2⟩
              have c := (mt x a).1
              have d := r6 x (by omega)
              unfold rTok at c ⊢
              rw [d.1, d.2.1, d.2.2.1, d.2.2.2]; exact c
            · subst a
              refine ⟨⟨by rw [← hk]; exact r2, by rw [← e]; exact r3, fun z => by rw [← hv z]; exact r4, fun z y => by rw [← hw z y]; exact r5⟩, ht⟩
          unfold tkE at bd ep
          unfold tkK at ek
          cases cl : isLtN (b p) with
          | true =>
            rw [cl, if_pos rfl] at bd ek ep
            rw [if_pos rfl, r_letLoop kp pn]
            have pe : nI p + nI (leB b n p - p) = nI (ps b n (j + 1)) := by rw [nI_add, ep]; congr 1; omega
            by_cases l8 : 8 < leB b n p - p
            · rw [if_pos l8] at ek
              rw [if_pos (show (8 : Int32) < nI (leB b n p - p) by rw [L_8]; exact nI_lt l8 (by omega)), if_pos (show (8 : Int32) < nI (leB b n p - p) by rw [L_8]; exact nI_lt l8 (by omega)), pe]
              obtain ⟨q, eq, _⟩ := r_token (k := 3) (p := p) (v := 0) (w := lN (pkw 27 (ltL b p (min (leB b n p - p) 8)))) (j := j) (by omega) mm
              rw [show fX11_token 3 (nI p) 0 _ m = some q from eq, bind_s]
              exact next 3 0 _ q eq (by rw [ek]; rfl) (fun z => by omega) (fun z => by omega)
            · rw [if_neg l8] at ek
              have lo := lt_ok (n := n) (i := p) h3 (by omega)
              have w2 := wkd_2 (ltL b p (leB b n p - p))
              rw [if_neg (show ¬ (8 : Int32) < nI (leB b n p - p) by rw [L_8]; exact nI_nlt (by omega) (by omega)), if_neg (show ¬ (8 : Int32) < nI (leB b n p - p) by rw [L_8]; exact nI_nlt (by omega) (by omega)), Nat.min_eq_left (by omega), r_keyLoop kw lo, pe]
              obtain ⟨q, eq, _⟩ := r_token (k := kR (wkd (ltL b p (leB b n p - p)))) (p := p) (v := 0) (w := lN (pkw 27 (ltL b p (leB b n p - p)))) (j := j) (by omega) mm
              rw [eq, bind_s]
              refine next _ 0 _ q eq (by rw [ek]) (fun z => by omega) (fun _ _ => ?_)
              unfold tN
              rw [← e]
          | false =>
            rw [cl, if_neg (show ¬ false = true by decide)] at bd ek ep
            rw [if_neg (show ¬ false = true by decide)]
            have clf : isLtN (b (tS b n j)) = false := by rw [← e]; exact cl
            cases cd : isDgN (b p) with
            | true =>
              rw [cd, if_pos rfl] at bd ek ep
              rw [if_pos rfl, r_digLoop kp pn]
              have pe : nI p + nI (deB b n p - p) = nI (ps b n (j + 1)) := by rw [nI_add, ep]; congr 1; omega
              by_cases l4 : 4 < deB b n p - p
              · rw [if_pos l4] at ek
                rw [if_pos (show (4 : Int32) < nI (deB b n p - p) by rw [L_4]; exact nI_lt l4 (by omega)), pe]
                obtain ⟨q, eq, _⟩ := r_token (k := 3) (p := p) (v := nI (dgV b p (min (deB b n p - p) 4))) (w := 0) (j := j) (by omega) mm
                rw [show fX11_token 3 (nI p) _ 0 m = some q from eq, bind_s]
                exact next 3 _ 0 q eq (by rw [ek]; rfl) (fun z => by omega) (fun z => by omega)
              · rw [if_neg l4] at ek
                rw [if_neg (show ¬ (4 : Int32) < nI (deB b n p - p) by rw [L_4]; exact nI_nlt (by omega) (by omega)), pe]
                obtain ⟨q, eq, _⟩ := r_token (k := 2) (p := p) (v := nI (dgV b p (min (deB b n p - p) 4))) (w := 0) (j := j) (by omega) mm
                rw [show fX11_token 2 (nI p) _ 0 m = some q from eq, bind_s]
                refine next 2 _ 0 q eq (by rw [ek]; rfl) (fun _ => ?_) (fun _ z => by rw [clf] at z; cases z)
                rw [Nat.min_eq_left (by omega)]
                unfold tV
                rw [← e]
            | false =>
              rw [cd, if_neg (show ¬ false = true by decide)] at bd ek ep
              rw [if_neg (show ¬ false = true by decide), nI_1, r_byteAt kp (by omega), bind_s, r_sign (h3 p)]
              have sr := sgN_r (b p) (h3 p)
              obtain ⟨q, eq, _⟩ := r_token (k := kR (sgN (b p))) (p := p) (v := 0) (w := 0) (j := j) (by omega) mm
              rw [eq, bind_s, bind_s]
              have := next _ 0 0 q eq (by rw [ek]) (fun z => by omega) (fun _ z => by rw [clf] at z; cases z)
              rw [ep] at this
              rw [nI_1]
              exact this
        · have bl : isBlN (b p) = true := by
            have := ffd_no (fun j => !isBlN (b j)) (n - ps b n j) (ps b n j) p hp1 (by show p < tS b n j; omega)
            simpa using this
          have st := ih j (p + 1) m (by omega) hj (by omega) (by omega) mf mm mt
          rw [nI_1]
          unfold isBlN at bl
          simp only [Bool.or_eq_true, beq_iff_eq] at bl
          rcases bl with q | q | q | q
          · rw [q, if_pos (by rfl)]; exact st
          · rw [q, if_neg (by decide), if_pos (by rfl)]; exact st
          · rw [q, if_neg (by decide), if_neg (by decide), if_pos (by rfl)]; exact st
          · rw [q, if_neg (by decide), if_neg (by decide), if_neg (by decide), if_pos (by rfl)]; exact st
      · have es : tS b n j = n := by omega
        have k0 : tK b n j = 0 := by unfold tK; rw [if_neg (by omega)]
        rw [if_neg (nI_nlt (by omega) (by omega))]
        obtain ⟨q, eq, r1, r2, r3, r4, r5, r6⟩ := r_token (k := 0) (p := n) (v := 0) (w := 0) (j := j) (by omega) mm
        rw [show fX11_token 0 (nI n) 0 0 m = some q from eq, bind_s]
        refine ⟨q, rfl, ?_⟩
        intro t ht hk
        rcases Nat.lt_trichotomy t j with a | a | a
        · have c := (mt t a).1
          have d := r6 t (by omega)
          unfold rTok at c ⊢
          rw [d.1, d.2.1, d.2.2.1, d.2.2.2]; exact c
        · subst a
          exact ⟨by rw [k0]; exact r2, by rw [es]; exact r3, fun z => by omega, fun z => by omega⟩
        · have := hk j a; omega
  exact go FU 0 0 (wI μ 243 10 0) (by unfold FU; omega) (by omega) (Nat.zero_le _) (Nat.zero_le _) (Fr.rfl.wI (by simp [WX11_cut, inW])) (by rw [wI_i, if_pos ⟨rfl, rfl⟩]; rfl) (fun x hx => by omega)
