/-! ===== a week of the reference ===== -/
abbrev rZ (v : Nat) (T : Txt) (l st : Int32) (S : St) (μ : Mem) : Prop := rX v T μ ∧ rS 277 0 S μ ∧ μ.1 243 52 = l ∧ μ.1 243 53 = st
def rZL : CellL := [(243, 1, some 18), (243, 1, some 52), (243, 1, some 53), (253, 20, none), (277, 1, none)]
theorem rZ.fr {v : Nat} {T : Txt} {l st : Int32} {S : St} {μ m : Mem} {W : CellL} (h : rZ v T l st S μ) (f : Fr W μ m) (d : dj rZL W = true) : rZ v T l st S m := by
  have k : ∀ a j, inW rZL a j → m.1 a j = μ.1 a j ∧ m.2 a j = μ.2 a j := fun a j hp => f a j (dj_sound d hp)
  have s : Sm 253 272 μ m := fun a j h1 h2 => k a j (by simp [rZL, inW]; omega)
  have s2 : Sm 277 277 μ m := fun a j h1 h2 => k a j (by simp [rZL, inW]; omega)
  exact ⟨h.1.sm (k 243 18 (by simp [rZL, inW])).1 s, h.2.1.sm s2, (k 243 52 (by simp [rZL, inW])).1.trans h.2.2.1, (k 243 53 (by simp [rZL, inW])).1.trans h.2.2.2⟩
theorem rZ.row {v : Nat} {T : Txt} {l st : Int32} {S S' : St} {μ : Mem} {j : Nat} {x : Int32} (h : rZ v T l st S μ) (k : rS 277 0 S' (wI μ 277 j x)) : rZ v T l st S' (wI μ 277 j x) :=
  ⟨h.1.sm (by rw [wI_i, if_neg (by omega)]) (Sm.wI (by omega)), k, by rw [wI_i, if_neg (by omega)]; exact h.2.2.1, by rw [wI_i, if_neg (by omega)]; exact h.2.2.2⟩
theorem rZ.wI {v : Nat} {T : Txt} {l st : Int32} {S : St} {μ : Mem} {a j : Nat} {x : Int32} (h : rZ v T l st S μ) (k : a = 278 ∨ a = 279) : rZ v T l st S (wI μ a j x) :=
  ⟨h.1.sm (by rw [wI_i, if_neg (by omega)]) (Sm.wI (by omega)), h.2.1.sm (Sm.wI (by omega)), by rw [wI_i, if_neg (by omega)]; exact h.2.2.1, by rw [wI_i, if_neg (by omega)]; exact h.2.2.2⟩
theorem rZ.gw {v : Nat} {T : Txt} {l st : Int32} {S : St} {μ : Mem} (h : rZ v T l st S μ) {R : Type} {x : Nat} (f : Int32 → R) (g : R) (e : f = fun _ => g) : f (μ.1 243 18) = g := by rw [e]
theorem r_dueAll {v : Nat} {T : Txt} {l st : Int32} {S : St} {μ : Mem} (h : rZ v T l st S μ) (ok : okS T S) : ∃ m, fX11_dueAll μ = some (smv (gLaw T S 0) T.nG, m) ∧ rZ v T l st S m := by
  have g7 := h.1.2.2.1.g7
  have v1 := h.1.2.1
  unfold fX11_dueAll
  obtain ⟨b, e, i1, i2⟩ := lupX (L := fun n w (a : Int32 × Mem) => fX11_dueAll_4 (fun y2 μ3 => some (y2, μ3)) n a.1 w a.2) (K := fun a => some (a.1, a.2)) (a := ((0 : Int32), μ)) T.nG (fun i a => a.1 = smv (gLaw T S 0) i ∧ rZ v T l st S a.2) (by omega) ⟨rfl, h⟩
    (by
      rintro n i ⟨a, m⟩ hi ⟨ha, hm⟩
      obtain ⟨⟨q, e⟩, _⟩ := r_gOf hm.1 hm.2.1 ok hi
      have f := frX11_paysOf _ _ _ e
      show ∃ b : Int32 × Mem, fX11_dueAll_4 (fun y2 μ3 => some (y2, μ3)) (n + 1) a (nI i) m = _ ∧ _
      rw [fX11_dueAll_4, hm.1.1, if_pos (inbN (by omega) (by omega)), nI_clamp (by omega), hm.1.2.2.2.nG, if_pos (nI_lt hi (by omega)), e, bind_s, nI_1]
      refine ⟨(a + gLaw T S 0 i, q), rfl, ?_, hm.fr f (by decide)⟩
      show a + gLaw T S 0 i = _
      rw [smv, show a = smv (gLaw T S 0) i from ha])
    (by
      rintro n ⟨a, m⟩ ⟨ha, hm⟩
      show fX11_dueAll_4 (fun y2 μ3 => some (y2, μ3)) (n + 1) a (nI T.nG) m = _
      rw [fX11_dueAll_4, hm.1.1, if_pos (inbN (by omega) (by omega)), nI_clamp (by omega), hm.1.2.2.2.nG, if_neg (nI_nlt (by omega) (by omega))])
  refine ⟨b.2, ?_, i2⟩
  rw [← i1]
  exact e
theorem wthn {a b c : Nat} (ha : a < 2 ^ 30) (hb : b < 2 ^ 30) (hc : c < 2 ^ 30) {x : Int32} (hx : x = nI c) (μ : Mem) : fX11_within (nI a + nI b) 0 x μ = some (nI (min c (a + b))) := by
  subst hx
  unfold fX11_within
  rw [nI_add, if_neg (nI_pos (by omega))]
  by_cases d : c < a + b
  · rw [if_pos (nI_lt d (by omega))]; congr 2; omega
  · rw [if_neg (nI_nlt (by omega) (by omega))]; congr 2; omega
theorem wthp {a : Nat} (ha : a ≤ 999) (μ : Mem) : fX11_within (nI a - 1) 0 999 μ = some (nI (a - 1)) := by
  unfold fX11_within
  rcases a with _ | a
  · rfl
  · rw [nI_pred, if_neg (nI_pos (by omega)), if_neg (by rw [show (999 : Int32) = nI 999 from rfl]; exact nI_nlt (by omega) (by omega))]
    rfl
theorem r_week7 {v : Nat} {T : Txt} {l st w : Int32} {S : St} {μ : Mem} {K : Mem → Option Mem} (h : rZ v T l st S μ) (ok : okS T S) : ∃ m, fX11_weekGoes_7 w K FU 0 μ = K m ∧ rZ v T l st S m ∧ ∀ g, g < T.nG → m.1 278 g = gLaw T S 1 g := by
  have g7 := h.1.2.2.1.g7
  have v1 := h.1.2.1
  refine lupX (L := fun n x m => fX11_weekGoes_7 w K n x m) (K := K) T.nG (fun i m => rZ v T l st S m ∧ ∀ g, g < i → m.1 278 g = gLaw T S 1 g) (by omega) ⟨h, fun g hg => by omega⟩ ?_ ?_
  · rintro n i m hi ⟨hm, hk⟩
    have hb7 : inb (nI i) 7 := inbN (by omega) (by omega)
    have hci : (nI i).toNatClampNeg = i := nI_clamp (by omega)
    obtain ⟨_, ⟨q, e⟩⟩ := r_gOf hm.1 hm.2.1 ok hi
    have f := frX11_restsOf _ _ _ e
    have z := hm.fr f (by decide)
    have s := smF 278 278 f (by decide)
    show ∃ b, fX11_weekGoes_7 w K (n + 1) (nI i) m = _ ∧ _
    rw [fX11_weekGoes_7, hm.1.1, if_pos (inbN (by omega) (by omega)), nI_clamp (by omega), hm.1.2.2.2.nG, if_pos (nI_lt hi (by omega)), e, bind_s, nI_1]
    simp only [if_pos hb7, hci, nm_ap]
    refine ⟨_, rfl, z.wI (Or.inl rfl), ?_⟩
    intro g hg
    rw [wI_i]
    by_cases c : g = i
    · rw [if_pos ⟨rfl, c⟩, c]
    · rw [if_neg (by omega), s.i 278 g (by omega) (by omega)]; exact hk g (by omega)
  · rintro n m ⟨hm, hk⟩
    show fX11_weekGoes_7 w K (n + 1) (nI T.nG) m = _
    rw [fX11_weekGoes_7, hm.1.1, if_pos (inbN (by omega) (by omega)), nI_clamp (by omega), hm.1.2.2.2.nG, if_neg (nI_nlt (by omega) (by omega))]
theorem r_week39 {v : Nat} {T : Txt} {l st w : Int32} {S : St} {μ : Mem} {K : Mem → Option Mem} (h : rZ v T l st S μ) (ok : okS T S) (h8 : ∀ g, g < T.nG → μ.1 278 g = gLaw T S 1 g) : ∃ m, fX11_weekGoes_39 w K FU 0 μ = K m ∧ rZ v T l st S m ∧ (∀ g, g < T.nG → m.1 278 g = gLaw T S 1 g) ∧ ∀ s, s < T.nS → m.1 279 s = wearV T S s := by
  have s4 := h.1.2.2.1.s4
  have v1 := h.1.2.1
  refine lupX (L := fun n x m => fX11_weekGoes_39 w K n x m) (K := K) T.nS (fun i m => rZ v T l st S m ∧ (∀ g, g < T.nG → m.1 278 g = gLaw T S 1 g) ∧ ∀ s, s < i → m.1 279 s = wearV T S s) (by omega) ⟨h, h8, fun g hg => by omega⟩ ?_ ?_
  · rintro n i m hi ⟨hm, hk8, hk⟩
    have hb4 : inb (nI i) 4 := inbN (by omega) (by omega)
    have hci : (nI i).toNatClampNeg = i := nI_clamp (by omega)
    obtain ⟨q, e⟩ := r_wearsOf hm.1 hm.2.1 ok hi
    have f := frX11_wearsOf _ _ _ e
    have z := hm.fr f (by decide)
    have s := smF 278 279 f (by decide)
    show ∃ b, fX11_weekGoes_39 w K (n + 1) (nI i) m = _ ∧ _
    rw [fX11_weekGoes_39, hm.1.1, if_pos (inbN (by omega) (by omega)), nI_clamp (by omega), hm.1.2.2.2.nS, if_pos (nI_lt hi (by omega)), e, bind_s, nI_1]
    simp only [if_pos hb4, hci, nm_ap]
    refine ⟨_, rfl, z.wI (Or.inr rfl), ?_, ?_⟩
    · intro g hg
      rw [wI_i, if_neg (by omega), s.i 278 g (by omega) (by omega)]; exact hk8 g hg
    · intro g hg
      rw [wI_i]
      by_cases c : g = i
      · rw [if_pos ⟨rfl, c⟩, c]
      · rw [if_neg (by omega), s.i 279 g (by omega) (by omega)]; exact hk g (by omega)
  · rintro n m ⟨hm, hk8, hk⟩
    show fX11_weekGoes_39 w K (n + 1) (nI T.nS) m = _
    rw [fX11_weekGoes_39, hm.1.1, if_pos (inbN (by omega) (by omega)), nI_clamp (by omega), hm.1.2.2.2.nS, if_neg (nI_nlt (by omega) (by omega))]
theorem prS_m0 (T : Txt) (S : St) (m : Int32) : prS T S m 0 = sMo S m := by
  apply St.ext2 <;> intros <;> first | rfl | (show (if _ < 0 then _ else _) = _; rw [if_neg (by omega)]; rfl)
theorem prS_ms (T : Txt) (S : St) (m : Int32) (i : Nat) : prS T S m (i + 1) = sRe (prS T S m i) i (reN T S i) := by
  rw [prS_s T S m m]; rfl
theorem r_restsIn {v : Nat} {T : Txt} {l st p : Int32} {S : St} {μ : Mem} (ok : okS T S) {i : Nat} (hi : i < T.nG) (h : rZ v T l st (prS T S p i) μ) (h8 : ∀ g, g < T.nG → μ.1 278 g = gLaw T S 1 g) : ∃ m, fX11_restsIn (nI i) μ = some m ∧ rZ v T l st (prS T S p (i + 1)) m := by
  have g7 := h.1.2.2.1.g7
  have s4 := h.1.2.2.1.s4
  have re999 := ok.re i
  have w9 : S.wh i < 9 ∨ S.wh i = 9 := by have := ok.w9 h.1.2.2.1 i; omega
  have e1 : μ.1 277 i = whI (S.wh i) := by have := h.2.1.wh i (by omega); rwa [Nat.zero_add] at this
  have e2 : μ.1 277 (14 + i) = b2i (S.dd i) := by have := h.2.1.dd i (by omega); rwa [Nat.zero_add] at this
  have e3 : μ.1 277 (7 + i) = nI (S.re i) := by have := h.2.1.re i (by omega); rw [Nat.zero_add, prS_rei] at this; exact this
  have b14 : inb (nI (14 + i)) 31 := inbN (by omega) (by omega)
  have c14 : (nI (14 + i)).toNatClampNeg = 14 + i := nI_clamp (by omega)
  have b7 : inb (nI (7 + i)) 31 := inbN (by omega) (by omega)
  have c7 : (nI (7 + i)).toNatClampNeg = 7 + i := nI_clamp (by omega)
  have bi7 : inb (nI i) 7 := inbN (by omega) (by omega)
  have bi : inb (nI i) 31 := inbN (by omega) (by omega)
  have ci : (nI i).toNatClampNeg = i := nI_clamp (by omega)
  have a14 : (14 : Int32) + nI i = nI (14 + i) := by rw [L_14, nI_add]
  have a7 : (7 : Int32) + nI i = nI (7 + i) := by rw [L_7, nI_add]
  unfold fX11_restsIn
  simp only [a14, a7, if_pos b14, c14, if_pos b7, c7, if_pos bi, if_pos bi7, ci, nm_ap]
  rw [e1, e2, e3]
  by_cases c : S.wh i = 9
  · rw [if_pos ((whI_neg w9).2 c)]
    cases hd : S.dd i with
    | true =>
      rw [if_neg (by decide)]
      refine ⟨μ, rfl, ?_⟩
      have : prS T S p (i + 1) = prS T S p i := by
        rw [prS_ms]
        apply St.ext2 <;> intros <;> try rfl
        next g =>
          show (if g = i then reN T S i else (prS T S p i).re g) = (prS T S p i).re g
          by_cases d : g = i
          · rw [if_pos d, d, prS_rei]; unfold reN; rw [if_pos c, if_pos hd]
          · rw [if_neg d]
      rw [this]; exact h
    | false =>
      rw [if_pos (by decide), wthp re999, bind_s]
      refine ⟨_, rfl, h.row ?_⟩
      rw [prS_ms, show reN T S i = S.re i - 1 by unfold reN; rw [if_pos c, if_neg (by rw [hd]; decide)]]
      exact h.2.1.sRe (by omega) _
  · rw [if_neg (fun q => c ((whI_neg w9).1 q)), h8 i hi]
    have gn := gLaw_N T S 1 i
    rw [gn.1, wthn (a := S.re i) (b := (gLaw T S 1 i).toNatClampNeg) (by omega) (by omega) (c := 999) (x := 999) (by omega) rfl, bind_s]
    refine ⟨_, rfl, h.row ?_⟩
    rw [prS_ms, show reN T S i = min 999 (S.re i + (gLaw T S 1 i).toNatClampNeg) by unfold reN; rw [if_neg c]]
    exact h.2.1.sRe (by omega) _
theorem r_week82 {v : Nat} {T : Txt} {l st p : Int32} {S : St} {μ : Mem} {K : Mem → Option Mem} (ok : okS T S) (h : rZ v T l st (sMo S p) μ) (h8 : ∀ g, g < T.nG → μ.1 278 g = gLaw T S 1 g) (h9 : ∀ s, s < T.nS → μ.1 279 s = wearV T S s) : ∃ m, fX11_weekGoes_82 K FU 0 μ = K m ∧ rZ v T l st (prS T S p T.nG) m ∧ ∀ s, s < T.nS → m.1 279 s = wearV T S s := by
  have g7 := h.1.2.2.1.g7
  have v1 := h.1.2.1
  obtain ⟨m, e, i1, i2, i3⟩ := lupX (L := fun n x m => fX11_weekGoes_82 K n x m) (K := K) (a := μ) T.nG (fun i m => rZ v T l st (prS T S p i) m ∧ (∀ g, g < T.nG → m.1 278 g = gLaw T S 1 g) ∧ ∀ s, s < T.nS → m.1 279 s = wearV T S s) (by omega) ⟨by rw [prS_m0]; exact h, h8, h9⟩
    (by
      rintro n i m hi ⟨hm, k8, k9⟩
      obtain ⟨q, e, hq⟩ := r_restsIn ok hi hm k8
      have f : Fr WX11_restsIn m q := frX11_restsIn _ _ _ e
      have s := smF 278 279 f (by decide)
      show ∃ b, fX11_weekGoes_82 K (n + 1) (nI i) m = _ ∧ _
      rw [fX11_weekGoes_82, hm.1.1, if_pos (inbN (by omega) (by omega)), nI_clamp (by omega), hm.1.2.2.2.nG, if_pos (nI_lt hi (by omega)), e, bind_s, nI_1]
      exact ⟨q, rfl, hq, fun g hg => by rw [s.i 278 g (by omega) (by omega)]; exact k8 g hg, fun g hg => by rw [s.i 279 g (by omega) (by omega)]; exact k9 g hg⟩)
    (by
      rintro n m ⟨hm, _⟩
      show fX11_weekGoes_82 K (n + 1) (nI T.nG) m = _
      rw [fX11_weekGoes_82, hm.1.1, if_pos (inbN (by omega) (by omega)), nI_clamp (by omega), hm.1.2.2.2.nG, if_neg (nI_nlt (by omega) (by omega))])
  exact ⟨m, e, i1, i3⟩
theorem wearV_N (T : Txt) (S : St) (s : Nat) : wearV T S s = nI (wearV T S s).toNatClampNeg ∧ (wearV T S s).toNatClampNeg ≤ 99 := by
  unfold wearV
  by_cases c : inB S s = 0
  · rw [if_pos c]; decide
  · rw [if_neg c]; exact lawV_N _ _ _
theorem wnN_w {T : Txt} {S : St} (ok : okS T S) (s : Nat) : wnN T S s = min 99 (S.wn s + (wearV T S s).toNatClampNeg) := by
  have := ok.wn s
  unfold wnN wearV
  by_cases c : inB S s = 0
  · rw [if_pos c, if_pos c, show (0 : Int32).toNatClampNeg = 0 by decide]; omega
  · rw [if_neg c, if_neg c]
theorem r_week108 {v : Nat} {T : Txt} {l st : Int32} {S : St} {μ : Mem} {K : Mem → Option Mem} (ok : okS T S) (h : rZ v T l st S μ) (h9 : ∀ s, s < T.nS → μ.1 279 s = wearV T S s) : ∃ m, fX11_weekGoes_108 K FU 0 μ = K m ∧ rZ v T l st (weS T S T.nS) m := by
  have s4 := h.1.2.2.1.s4
  have v1 := h.1.2.1
  obtain ⟨m, e, i1, i2⟩ := lupX (L := fun n x m => fX11_weekGoes_108 K n x m) (K := K) (a := μ) T.nS (fun i m => rZ v T l st (weS T S i) m ∧ ∀ s, s < T.nS → m.1 279 s = wearV T S s) (by omega) ⟨by rw [weS_0]; exact h, h9⟩
    (by
      rintro n i m hi ⟨hm, k9⟩
      have b4 : inb (nI i) 4 := inbN (by omega) (by omega)
      have ci : (nI i).toNatClampNeg = i := nI_clamp (by omega)
      have b21 : inb (nI (21 + i)) 31 := inbN (by omega) (by omega)
      have c21 : (nI (21 + i)).toNatClampNeg = 21 + i := nI_clamp (by omega)
      have a21 : (21 : Int32) + nI i = nI (21 + i) := by rw [L_21, nI_add]
      have wni : (weS T S i).wn i = S.wn i := by
        show (if i < i then wnN T S i else S.wn i) = S.wn i
        rw [if_neg (by omega)]
      have wn99 := ok.wn i
      have e1 : m.1 277 (21 + i) = nI (S.wn i) := by have := hm.2.1.wn i (by omega); rw [Nat.zero_add, wni] at this; exact this
      have gn := wearV_N T S i
      show ∃ b, fX11_weekGoes_108 K (n + 1) (nI i) m = _ ∧ _
      rw [fX11_weekGoes_108, hm.1.1, if_pos (inbN (by omega) (by omega)), nI_clamp (by omega), hm.1.2.2.2.nS, if_pos (nI_lt hi (by omega))]
      simp only [a21, if_pos b21, c21, if_pos b4, ci, nm_ap]
      rw [e1, k9 i hi, gn.1, wthn (a := S.wn i) (b := (wearV T S i).toNatClampNeg) (by omega) (by omega) (c := 99) (x := 99) (by omega) rfl, bind_s, nI_1]
      refine ⟨_, rfl, hm.row ?_, ?_⟩
      · rw [weS_s, wnN_w ok]
        exact hm.2.1.sWn (by omega) _
      · intro s hs; rw [wI_i, if_neg (by omega)]; exact k9 s hs)
    (by
      rintro n m ⟨hm, _⟩
      show fX11_weekGoes_108 K (n + 1) (nI T.nS) m = _
      rw [fX11_weekGoes_108, hm.1.1, if_pos (inbN (by omega) (by omega)), nI_clamp (by omega), hm.1.2.2.2.nS, if_neg (nI_nlt (by omega) (by omega))])
  exact ⟨m, e, i1⟩
theorem r_lot {μ : Mem} {l : Int32} (h : μ.1 243 52 = l) (w : Int32) : fX11_lotOf w μ = some (lotI l w) := by
  unfold fX11_lotOf fX11_mixed lotI stI
  rw [h]
  simp only [nm_ap, bind_s]
theorem r_mayDie {v : Nat} {T : Txt} {l : Int32} {S : St} {μ : Mem} (ok : okS T S) {i : Nat} (hi : i < T.nG) (h : rZ v T l 0 (buS T S l i) μ) : ∃ m, fX11_mayDie (nI i) μ = some m ∧ rZ v T l 0 (buS T S l (i + 1)) m := by
  have g7 := h.1.2.2.1.g7
  have s4 := h.1.2.2.1.s4
  have de := h.1.2.2.1.de
  have v1 := h.1.2.1
  have re999 := ok.re i
  have w9 : S.wh i < 9 ∨ S.wh i = 9 := by have := ok.w9 h.1.2.2.1 i; omega
  have whe : (buS T S l i).wh i = S.wh i := by
    show (if i < i ∧ dieB T S l i = true then 9 else S.wh i) = S.wh i
    rw [if_neg (by omega)]
  have e1 : μ.1 277 i = whI (S.wh i) := by have := h.2.1.wh i (by omega); rw [Nat.zero_add, whe] at this; exact this
  have e3 : μ.1 277 (7 + i) = nI (S.re i) := by have := h.2.1.re i (by omega); rwa [Nat.zero_add] at this
  have e4 : μ.1 277 29 = S.wk := by have := h.2.1.wk; rwa [Nat.zero_add] at this
  have b14 : inb (nI (14 + i)) 31 := inbN (by omega) (by omega)
  have c14 : (nI (14 + i)).toNatClampNeg = 14 + i := nI_clamp (by omega)
  have b7 : inb (nI (7 + i)) 31 := inbN (by omega) (by omega)
  have c7 : (nI (7 + i)).toNatClampNeg = 7 + i := nI_clamp (by omega)
  have bi : inb (nI i) 31 := inbN (by omega) (by omega)
  have ci : (nI i).toNatClampNeg = i := nI_clamp (by omega)
  have bv : inb (nI v) 2 := inbN (by omega) (by omega)
  have cv : (nI v).toNatClampNeg = v := nI_clamp (by omega)
  have a14 : (14 : Int32) + nI i = nI (14 + i) := by rw [L_14, nI_add]
  have a7 : (7 : Int32) + nI i = nI (7 + i) := by rw [L_7, nI_add]
  unfold fX11_mayDie
  rw [h.2.2.2, if_pos rfl, h.1.1]
  simp only [a14, a7, if_pos b14, c14, if_pos b7, c7, if_pos bi, ci, if_pos bv, cv, nm_ap]
  rw [e1, e3, e4, h.1.2.2.2.de]
  by_cases c2 : S.wh i = 9
  · rw [if_pos ((whI_neg w9).2 c2)]
    refine ⟨μ, rfl, ?_⟩
    rw [buS_no _ _ _ _ (by unfold dieB; simp [c2])]; exact h
  · rw [if_neg (fun q => c2 ((whI_neg w9).1 q))]
    by_cases c1 : T.de ≤ S.re i
    · rw [if_neg (nI_nlt c1 (by omega)), r_lot h.2.2.1, bind_s]
      by_cases c3 : lotI l (8 * S.wk + nI i) < nI (S.re i) - nI T.de + 10
      · rw [if_pos c3]
        refine ⟨_, rfl, ?_⟩
        rw [buS_yes _ _ _ _ (by unfold dieB; simp [c1, c2, c3])]
        have k1 := h.row (h.2.1.sDd (g := i) (by omega))
        exact k1.row (k1.2.1.out (by omega))
      · rw [if_neg c3]
        refine ⟨μ, rfl, ?_⟩
        rw [buS_no _ _ _ _ (by unfold dieB; simp [c3])]; exact h
    · rw [if_pos (nI_lt (by omega) (by omega))]
      refine ⟨μ, rfl, ?_⟩
      rw [buS_no _ _ _ _ (by unfold dieB; simp [c1])]; exact h
theorem r_week160 {v : Nat} {T : Txt} {l : Int32} {S : St} {μ : Mem} {K : Mem → Option Mem} (ok : okS T S) (h : rZ v T l 0 S μ) : ∃ m, fX11_weekGoes_160 K FU 0 μ = K m ∧ rZ v T l 0 (buS T S l T.nG) m := by
  have g7 := h.1.2.2.1.g7
  have v1 := h.1.2.1
  refine lupX (L := fun n x m => fX11_weekGoes_160 K n x m) (K := K) T.nG (fun i m => rZ v T l 0 (buS T S l i) m) (by omega) (by rw [buS_0]; exact h) ?_ ?_
  · rintro n i m hi hm
    obtain ⟨q, e, hq⟩ := r_mayDie ok hi hm
    show ∃ b, fX11_weekGoes_160 K (n + 1) (nI i) m = _ ∧ _
    rw [fX11_weekGoes_160, hm.1.1, if_pos (inbN (by omega) (by omega)), nI_clamp (by omega), hm.1.2.2.2.nG, if_pos (nI_lt hi (by omega)), e, bind_s, nI_1]
    exact ⟨q, rfl, hq⟩
  · rintro n m hm
    show fX11_weekGoes_160 K (n + 1) (nI T.nG) m = _
    rw [fX11_weekGoes_160, hm.1.1, if_pos (inbN (by omega) (by omega)), nI_clamp (by omega), hm.1.2.2.2.nG, if_neg (nI_nlt (by omega) (by omega))]
theorem r_week160s {v : Nat} {T : Txt} {l : Int32} {S : St} {μ : Mem} {K : Mem → Option Mem} (h : rZ v T l 1 S μ) : fX11_weekGoes_160 K FU 0 μ = K μ := by
  have g7 := h.1.2.2.1.g7
  have v1 := h.1.2.1
  have := lupF (L := fun n x m => fX11_weekGoes_160 K n x m) (K := K) (a := μ) T.nG (fun i m => m = μ) (fun i m => m) (by omega) rfl
    (by
      intro n i m hi hm
      subst hm
      show fX11_weekGoes_160 K (n + 1) (nI i) m = _
      rw [fX11_weekGoes_160, h.1.1, if_pos (inbN (by omega) (by omega)), nI_clamp (by omega), h.1.2.2.2.nG, if_pos (nI_lt hi (by omega))]
      unfold fX11_mayDie
      rw [h.2.2.2, if_neg (by decide), bind_s, nI_1])
    (by intro i m hi hm; exact hm)
    (by
      intro n m hm
      subst hm
      show fX11_weekGoes_160 K (n + 1) (nI T.nG) m = _
      rw [fX11_weekGoes_160, h.1.1, if_pos (inbN (by omega) (by omega)), nI_clamp (by omega), h.1.2.2.2.nG, if_neg (nI_nlt (by omega) (by omega))])
  rw [this.2] at this
  exact this.1
/-- some lots: those who die do; none: nobody does -/
def stOf (l : Option Int32) : Int32 := match l with | none => 1 | some _ => 0
def loOf (l : Option Int32) (d : Int32) : Int32 := match l with | none => d | some l => l
theorem ex_step {R : Type} {X : Option R} {K : Mem → Option R} {Q : Mem → Prop} {P : R → Prop} (H : ∃ m, X = K m ∧ Q m) (G : ∀ m, Q m → ∃ r, K m = some r ∧ P r) : ∃ r, X = some r ∧ P r := by
  obtain ⟨m, e, q⟩ := H
  obtain ⟨r, e2, p⟩ := G m q
  exact ⟨r, e.trans e2, p⟩
theorem r_weekGoes {v : Nat} {T : Txt} {d : Int32} {S : St} {μ : Mem} (l : Option Int32) (ok : okS T S) (h : rZ v T (loOf l d) (stOf l) S μ) : ∃ m, fX11_weekGoes μ = some m ∧ rZ v T (loOf l d) (stOf l) (weekF T l S) m := by
  unfold fX11_weekGoes
  obtain ⟨m1, e1, z1⟩ := r_dueAll h ok
  rw [e1, bind_s]
  refine ex_step (r_week7 z1 ok) ?_
  rintro m2 ⟨z2, k2⟩
  refine ex_step (r_week39 z2 ok k2) ?_
  rintro m3 ⟨z3, k3, j3⟩
  have mo3 : m3.1 277 30 = S.mo := by have := z3.2.1.mo; rwa [Nat.zero_add] at this
  rw [nm_ap, mo3]
  have z4 := z3.row (z3.2.1.sMo (S.mo + smv (gLaw T S 0) T.nG))
  refine ex_step (r_week82 ok z4 (fun g hg => by rw [wI_i, if_neg (by omega)]; exact k3 g hg) (fun g hg => by rw [wI_i, if_neg (by omega)]; exact j3 g hg)) ?_
  rintro m5 ⟨z5, k5⟩
  refine ex_step (r_week108 (ok.pr _ _) z5 k5) ?_
  rintro m6 z6
  cases l with
  | none =>
    rw [r_week160s z6, nm_ap]
    have wk6 : m6.1 277 29 = S.wk := by have := z6.2.1.wk; rwa [Nat.zero_add] at this
    rw [wk6]
    exact ⟨_, rfl, z6.row (z6.2.1.sWk _)⟩
  | some l =>
    refine ex_step (r_week160 ((ok.pr _ _).we _) z6) ?_
    rintro m7 z7
    have wk6 : m7.1 277 29 = S.wk := by have := z7.2.1.wk; rwa [Nat.zero_add] at this
    rw [nm_ap, wk6]
    exact ⟨_, rfl, z7.row (z7.2.1.sWk _)⟩
theorem r_goes {v : Nat} {T : Txt} {d : Int32} {S : St} {μ : Mem} (l : Option Int32) (ok : okS T S) (h : rZ v T (loOf l d) (stOf l) S μ) {N : Nat} (hN : N ≤ 40) : ∃ m, fX11_goes (nI N) μ = some m ∧ rZ v T (loOf l d) (stOf l) (itW T l N S) m := by
  unfold fX11_goes
  refine lupX (L := fun n x m => fX11_goes_2 (nI N) (fun μ2 => some μ2) n x m) (K := fun μ2 => some μ2) N (fun i m => rZ v T (loOf l d) (stOf l) (itW T l i S) m) (by omega) h ?_ ?_
  · rintro n i m hi hm
    obtain ⟨q, e, hq⟩ := r_weekGoes l (ok.it l i) hm
    show ∃ b, fX11_goes_2 (nI N) (fun μ2 => some μ2) (n + 1) (nI i) m = _ ∧ _
    rw [fX11_goes_2, if_pos (nI_lt hi (by omega)), e, bind_s, nI_1]
    exact ⟨q, rfl, hq⟩
  · rintro n m hm
    show fX11_goes_2 (nI N) (fun μ2 => some μ2) (n + 1) (nI N) m = _
    rw [fX11_goes_2, if_neg (nI_nlt (by omega) (by omega))]
