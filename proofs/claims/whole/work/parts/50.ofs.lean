/-! ===== a law of a Sunday, of a guest: both sides ===== -/
def vsS (T : Txt) (S : St) (s : Nat) : Nat → Int32 := fun k => if k = 0 then 0 else if k = 1 then nI (htk T S s) else if k = 2 then 0 else if k = 3 then 0 else if k = 4 then nI (S.wn s) else if k = 5 then nI (T.wo s) else if k = 6 then S.wk else if k = 7 then nI s else nI (pcN (inB S s))
theorem c_ofSunday {t u : Nat} {T : Txt} {S : St} {μ : Mem} (ht : 182 < t) (hu : u + 3 < 181 ∨ 182 < u) (hT : okT T) (ok : okS T S) (h : cT t T μ) (hS : cS u S μ) {k s : Nat} (hk : k < 4) (hs : s < T.nS) : ∃ m, fX1_ofSunday (nI k) t u (nI s) μ = some (lawV T k (vsS T S s), m) := by
  have s4 := hT.s4
  have hb4 : inb (nI s) 4 := inbN (by omega) (by omega)
  have hcs : (nI s).toNatClampNeg = s := nI_clamp (by omega)
  unfold fX1_ofSunday fX1_setSunday
  simp only [if_pos hb4, hcs, nm_ap, bind_s]
  generalize hm : wI (wI _ 181 6 _) 181 0 0 = m1
  have ex : Ex 181 μ m1 := by
    subst hm
    exact Ex.trans (Ex.trans (Ex.trans Ex.w Ex.w) Ex.w) Ex.w
  have w1 : m1.1 (u + 1) s = nI (inB S s) := by rw [(ex (u + 1) s (by omega)).1]; exact hS.wh s (by omega)
  rw [w1, c_hoursOf (h.sm (ex.sm (by omega))) hT ok (by omega), bind_s]
  generalize hm2 : wI (wI _ 181 3 0) 181 7 (nI s) = m2
  have ex2 : Ex 181 m1 m2 := by
    subst hm2
    exact Ex.trans (Ex.trans (Ex.trans Ex.w Ex.w) Ex.w) Ex.w
  have w2 : m2.1 (u + 1) s = nI (inB S s) := by rw [(ex2 (u + 1) s (by omega)).1]; exact w1
  rw [w2, c_bits (inB_lt S s), bind_s]
  generalize hm3 : wI m2 181 8 _ = m3
  have ex3 : Ex 181 μ m3 := by
    subst hm3
    exact Ex.trans (Ex.trans ex ex2) Ex.w
  obtain ⟨m, e⟩ := c_answerHeld (μ := m3) ht hT (h.sm (ex3.sm (by omega))) hk
  refine ⟨m, ?_⟩
  rw [e, bind_s]
  congr 2
  apply lawV_ext hT hk
  intro j hj
  subst hm3 hm2 hm
  have f5 : ¬ u + 2 = 181 := by omega
  have f6 : ¬ t + 2 = 181 := by omega
  have f7 : ¬ u = 181 := by omega
  simp only [wI_i, f5, f6, f7, false_and, if_false]
  rw [hS.wn s (by omega), h.wo s hs, hS.wk]
  unfold vsS
  rcases (show j = 0 ∨ j = 1 ∨ j = 2 ∨ j = 3 ∨ j = 4 ∨ j = 5 ∨ j = 6 ∨ j = 7 ∨ j = 8 by omega) with e | e | e | e | e | e | e | e | e <;> subst e <;> simp
theorem r_looksAt {v : Nat} {T : Txt} {S : St} {μ : Mem} (h : rX v T μ) (hS : rS 277 0 S μ) {s : Nat} (hs : s < T.nS) : fX11_looksAt (nI s) μ = some (wI (wI (wI μ 274 4 (nI (S.wn s))) 274 5 (nI (T.wo s))) 274 6 S.wk) := by
  have s4 := h.2.2.1.s4
  have v1 := h.2.1
  have e1 : μ.1 277 (21 + s) = nI (S.wn s) := by have := hS.wn s (by omega); rwa [Nat.zero_add] at this
  have e2 : μ.1 277 29 = S.wk := by have := hS.wk; rwa [Nat.zero_add] at this
  have e3 : (wI μ 274 4 (nI (S.wn s))).1 243 18 = nI v := by rw [wI_i, if_neg (by omega)]; exact h.1
  have e4 : (wI μ 274 4 (nI (S.wn s))).1 255 (4 * v + s) = nI (T.wo s) := by rw [wI_i, if_neg (by omega)]; exact h.2.2.2.wo s hs
  have e5 : (wI (wI μ 274 4 (nI (S.wn s))) 274 5 (nI (T.wo s))).1 277 29 = S.wk := by rw [wI_i, if_neg (by omega), wI_i, if_neg (by omega)]; exact e2
  unfold fX11_looksAt
  rw [L_21, nI_add, if_pos (inbN (by omega) (by omega)), nI_clamp (by omega), e1, nm_ap, e3, ix4, if_pos (inbN (by omega) (by omega)), nI_clamp (by omega), e4, nm_ap, e5, nm_ap]
theorem Ex.rx {v : Nat} {T : Txt} {μ m : Mem} (h : rX v T μ) (x : Ex 274 μ m) : rX v T m := h.sm (x 243 18 (by omega)).1 (x.sm (by omega))
theorem Ex.rs {S : St} {μ m : Mem} (h : rS 277 0 S μ) (x : Ex 274 μ m) : rS 277 0 S m := h.sm (x.sm (by omega))
theorem r_looks {v : Nat} {T : Txt} {S : St} {μ : Mem} (h : rX v T μ) (hS : rS 277 0 S μ) {g s : Nat} (hg : g < T.nG) (hs : s < T.nS) (o : Int32) : ∃ m, fX11_looks (nI g) (nI s) o μ = some m ∧ Ex 274 μ m ∧ ∀ k, k < 9 → m.1 274 k = vsG T S g s o k := by
  have g7 := h.2.2.1.g7
  have v1 := h.2.1
  unfold fX11_looks
  rw [r_looksAt h hS hs, bind_s]
  generalize hm : wI (wI (wI μ 274 4 (nI (S.wn s))) 274 5 (nI (T.wo s))) 274 6 S.wk = m1
  have ex : Ex 274 μ m1 := by subst hm; exact Ex.trans (Ex.trans Ex.w Ex.w) Ex.w
  have x1 := ex.rx h
  rw [x1.1, ix7, if_pos (inbN (by omega) (by omega)), nI_clamp (by omega), x1.2.2.2.fe g hg, nm_ap]
  have ex2 : Ex 274 μ (wI m1 274 0 (nI (T.fe g))) := Ex.trans ex Ex.w
  have x2 := ex2.rx h
  rw [x2.1, ix7, if_pos (inbN (by omega) (by omega)), nI_clamp (by omega), x2.2.2.2.hs g hg, nm_ap]
  have ex3 : Ex 274 μ (wI (wI m1 274 0 (nI (T.fe g))) 274 1 (nI (T.hs g))) := Ex.trans ex2 Ex.w
  have x3 := ex3.rx h
  rw [r_fromAt x3 hg, bind_s, nm_ap]
  have ex4 : Ex 274 μ (wI (wI (wI m1 274 0 (nI (T.fe g))) 274 1 (nI (T.hs g))) 274 2 (nI (T.hr g))) := Ex.trans ex3 Ex.w
  have s5 := (ex4.rs hS).re g (by omega)
  rw [Nat.zero_add] at s5
  rw [L_7, nI_add, if_pos (inbN (by omega) (by omega)), nI_clamp (by omega), s5, nm_ap, nm_ap, nm_ap]
  refine ⟨_, rfl, Ex.trans (Ex.trans (Ex.trans ex4 Ex.w) Ex.w) Ex.w, ?_⟩
  intro j hj
  subst hm
  simp only [wI_i]
  unfold vsG
  rcases (show j = 0 ∨ j = 1 ∨ j = 2 ∨ j = 3 ∨ j = 4 ∨ j = 5 ∨ j = 6 ∨ j = 7 ∨ j = 8 by omega) with e | e | e | e | e | e | e | e | e <;> subst e <;> simp
theorem r_gAt {v : Nat} {T : Txt} {S : St} {μ : Mem} (h : rX v T μ) (hS : rS 277 0 S μ) {g s : Nat} (hg : g < T.nG) (hs : s < T.nS) (o : Int32) : (∃ m, fX11_paysAt (nI g) (nI s) o μ = some (lawV T 0 (vsG T S g s o), m)) ∧ (∃ m, fX11_restsAt (nI g) (nI s) o μ = some (lawV T 1 (vsG T S g s o), m)) := by
  obtain ⟨m, e, x, k⟩ := r_looks h hS hg hs o
  constructor
  · obtain ⟨m2, e2⟩ := r_lawTells (x.rx h) (k := 0) (by omega) (pl := m.1 274 0) rfl
    rw [lawV_ext h.2.2.1 (by omega) k] at e2
    refine ⟨m2, ?_⟩
    unfold fX11_paysAt
    rw [e, bind_s, L_0, e2, bind_s]
  · obtain ⟨m2, e2⟩ := r_lawTells (x.rx h) (k := 1) (by omega) (pl := m.1 274 1) rfl
    rw [lawV_ext h.2.2.1 (by omega) k] at e2
    refine ⟨m2, ?_⟩
    unfold fX11_restsAt
    rw [e, bind_s, L_1, e2, bind_s]
theorem r_hoursTaken {v : Nat} {T : Txt} {S : St} {μ : Mem} (h : rX v T μ) (hS : rS 277 0 S μ) (ok : okS T S) {s : Nat} (hs : s < 9) : fX11_hoursTaken (nI s) μ = some (nI (htk T S s)) := by
  have g7 := h.2.2.1.g7
  have v1 := h.2.1
  have e : ∀ g, g < 7 → μ.1 277 g = whI (S.wh g) := by intro g hg; have := hS.wh g hg; rwa [Nat.zero_add] at this
  have w9 : ∀ g, S.wh g < 9 ∨ S.wh g = 9 := fun g => by have := ok.w9 h.2.2.1 g; omega
  unfold fX11_hoursTaken
  rw [lsum (L := fun n a i => fX11_hoursTaken_4 (nI s) μ (fun y => some y) n a i) (K := fun y => some y) T.nG (fun g => if S.wh g = s then nI (T.hs g) else 0) (by omega)
    (by
      intro n i a hi
      show fX11_hoursTaken_4 (nI s) μ (fun y => some y) (n + 1) a (nI i) = _
      rw [fX11_hoursTaken_4, h.1, if_pos (inbN (by omega) (by omega)), nI_clamp (by omega), h.2.2.2.nG, if_pos (nI_lt hi (by omega)), if_pos (inbN (by omega) (by omega)), nI_clamp (by omega), e i (by omega)]
      by_cases c : S.wh i = s
      · rw [if_pos ((whI_eq hs (w9 i)).2 c), ix7, if_pos (inbN (by omega) (by omega)), nI_clamp (by omega), h.2.2.2.hs i hi, nm_ap, nI_1, if_pos c]
      · rw [if_neg (fun q => c ((whI_eq hs (w9 i)).1 q)), nI_1, if_neg c, ad0])
    (by
      intro n a
      show fX11_hoursTaken_4 (nI s) μ (fun y => some y) (n + 1) a (nI T.nG) = _
      rw [fX11_hoursTaken_4, h.1, if_pos (inbN (by omega) (by omega)), nI_clamp (by omega), h.2.2.2.nG, if_neg (nI_nlt (by omega) (by omega))])]
  unfold htk
  rw [smv_nI (w := fun g => if S.wh g = s then T.hs g else 0) (fun i hi => by
    by_cases c : S.wh i = s
    · rw [if_pos c, if_pos c]
    · rw [if_neg c, if_neg c]; rfl)]
theorem r_looksAll {v : Nat} {T : Txt} {S : St} {μ : Mem} (h : rX v T μ) (hS : rS 277 0 S μ) (ok : okS T S) {s : Nat} (hs : s < T.nS) : ∃ m, fX11_looksAll (nI s) μ = some m ∧ Ex 274 μ m ∧ ∀ k, k < 9 → m.1 274 k = vsS T S s k := by
  have s4 := h.2.2.1.s4
  unfold fX11_looksAll
  rw [r_looksAt h hS hs, bind_s, nm_ap]
  generalize hm : wI (wI (wI (wI μ 274 4 (nI (S.wn s))) 274 5 (nI (T.wo s))) 274 6 S.wk) 274 0 0 = m1
  have ex : Ex 274 μ m1 := by subst hm; exact Ex.trans (Ex.trans (Ex.trans Ex.w Ex.w) Ex.w) Ex.w
  rw [r_hoursTaken (ex.rx h) (ex.rs hS) ok (by omega), bind_s, nm_ap, nm_ap, nm_ap, nm_ap]
  generalize hm2 : wI (wI (wI (wI m1 274 1 (nI (htk T S s))) 274 2 0) 274 3 0) 274 7 (nI s) = m2
  have ex2 : Ex 274 μ m2 := by subst hm2; exact Ex.trans ex (Ex.trans (Ex.trans (Ex.trans Ex.w Ex.w) Ex.w) Ex.w)
  rw [r_guestBits (ex2.rx h) (ex2.rs hS) ok (by omega), bind_s, r_bits (inB_lt S s), bind_s, nm_ap]
  refine ⟨_, rfl, Ex.trans ex2 Ex.w, ?_⟩
  intro j hj
  subst hm2 hm
  simp only [wI_i]
  unfold vsS
  rcases (show j = 0 ∨ j = 1 ∨ j = 2 ∨ j = 3 ∨ j = 4 ∨ j = 5 ∨ j = 6 ∨ j = 7 ∨ j = 8 by omega) with e | e | e | e | e | e | e | e | e <;> subst e <;> simp
def wearV (T : Txt) (S : St) (s : Nat) : Int32 := if inB S s = 0 then 0 else lawV T 2 (vsS T S s)
def sellV (T : Txt) (S : St) (s : Nat) : Int32 := lawV T 3 (vsS T S s)
theorem r_wearsOf {v : Nat} {T : Txt} {S : St} {μ : Mem} (h : rX v T μ) (hS : rS 277 0 S μ) (ok : okS T S) {s : Nat} (hs : s < T.nS) : ∃ m, fX11_wearsOf (nI s) μ = some (wearV T S s, m) := by
  have s4 := h.2.2.1.s4
  have lt := inB_lt S s
  unfold fX11_wearsOf wearV
  rw [r_guestBits h hS ok (by omega), bind_s]
  by_cases c : inB S s = 0
  · rw [if_pos (by rw [c]; rfl), if_pos c]; exact ⟨μ, rfl⟩
  · rw [if_neg (nI_ne0 (by omega) (by omega)), if_neg c]
    obtain ⟨m, e, x, k⟩ := r_looksAll h hS ok hs
    obtain ⟨m2, e2⟩ := r_lawTells (x.rx h) (k := 2) (by omega) (pl := 1) rfl
    rw [lawV_ext h.2.2.1 (by omega) k] at e2
    refine ⟨m2, ?_⟩
    rw [e, bind_s, L_2, e2, bind_s]
theorem r_sellsOf {v : Nat} {T : Txt} {S : St} {μ : Mem} (h : rX v T μ) (hS : rS 277 0 S μ) (ok : okS T S) {s : Nat} (hs : s < T.nS) : ∃ m, fX11_sellsOf (nI s) μ = some (sellV T S s, m) := by
  unfold fX11_sellsOf sellV
  obtain ⟨m, e, x, k⟩ := r_looksAll h hS ok hs
  obtain ⟨m2, e2⟩ := r_lawTells (x.rx h) (k := 3) (by omega) (pl := m.1 274 5) rfl
  rw [lawV_ext h.2.2.1 (by omega) k] at e2
  refine ⟨m2, ?_⟩
  rw [e, bind_s, L_3, e2, bind_s]
def othI (S : St) (g : Nat) : Int32 := nI (pcN (inB S (S.wh g))) - 1
def gLaw (T : Txt) (S : St) (k g : Nat) : Int32 := if S.wh g = 9 then 0 else lawV T k (vsG T S g (S.wh g) (othI S g))
theorem okS.in_nS {T : Txt} {S : St} (h : okS T S) {g : Nat} (c : ¬ S.wh g = 9) : S.wh g < T.nS := by
  rcases h.wh g with e | e
  · exact absurd e c
  · exact e.1
theorem r_gOf {v : Nat} {T : Txt} {S : St} {μ : Mem} (h : rX v T μ) (hS : rS 277 0 S μ) (ok : okS T S) {g : Nat} (hg : g < T.nG) : (∃ m, fX11_paysOf (nI g) μ = some (gLaw T S 0 g, m)) ∧ (∃ m, fX11_restsOf (nI g) μ = some (gLaw T S 1 g, m)) := by
  have g7 := h.2.2.1.g7
  have s4 := h.2.2.1.s4
  have e : μ.1 277 g = whI (S.wh g) := by have := hS.wh g (by omega); rwa [Nat.zero_add] at this
  have w9 : S.wh g < 9 ∨ S.wh g = 9 := by have := ok.w9 h.2.2.1 g; omega
  unfold fX11_paysOf fX11_restsOf gLaw
  have hb : inb (nI g) 31 := inbN (by omega) (by omega)
  have hcl : (nI g).toNatClampNeg = g := nI_clamp (by omega)
  simp only [if_pos hb, hcl, e]
  by_cases c : S.wh g = 9
  · rw [if_pos ((whI_neg w9).2 c), if_pos ((whI_neg w9).2 c), if_pos c, if_pos c]
    exact ⟨⟨μ, rfl⟩, ⟨μ, rfl⟩⟩
  · have hs := ok.in_nS c
    have wi : whI (S.wh g) = nI (S.wh g) := by unfold whI; rw [if_pos (by omega)]
    have ot : fX11_othersOf (nI g) μ = some (othI S g) := by
      unfold fX11_othersOf othI
      rw [if_pos (inbN (by omega) (by omega)), nI_clamp (by omega), e, wi, r_guestBits h hS ok (by omega), bind_s, r_bits (inB_lt S _), bind_s]
    rw [if_neg (fun q => c ((whI_neg w9).1 q)), if_neg (fun q => c ((whI_neg w9).1 q)), if_neg c, if_neg c, ot, bind_s, bind_s, wi]
    obtain ⟨⟨m1, e1⟩, ⟨m2, e2⟩⟩ := r_gAt h hS hg hs (othI S g)
    exact ⟨⟨m1, by rw [e1, bind_s]⟩, ⟨m2, by rw [e2, bind_s]⟩⟩
theorem c_ofGuestNow {t u : Nat} {T : Txt} {S : St} {μ : Mem} (ht : 182 < t) (hu : u + 3 < 181 ∨ 182 < u) (hT : okT T) (ok : okS T S) (h : cT t T μ) (hS : cS u S μ) {k g : Nat} (hk : k < 4) (hg : g < T.nG) : ∃ m, fX1_ofGuestNow (nI k) t u (nI g) μ = some (gLaw T S k g, m) := by
  have g7 := hT.g7
  have s4 := hT.s4
  have w9 : S.wh g < 9 ∨ S.wh g = 9 := by have := ok.w9 hT g; omega
  unfold fX1_ofGuestNow gLaw
  rw [c_whereIs hS (by omega) (ok.w9 hT g), bind_s]
  by_cases c : S.wh g = 9
  · rw [if_pos ((whI_m2 w9).2 c), if_pos c]; exact ⟨μ, rfl⟩
  · have hs := ok.in_nS c
    have wi : whI (S.wh g) = nI (S.wh g) := by unfold whI; rw [if_pos (by omega)]
    rw [if_neg (fun q => c ((whI_m2 w9).1 q)), if_neg c, wi, if_pos (inbN (by omega) (by omega)), nI_clamp (by omega), hS.wh _ (by omega), c_bits (inB_lt S _), bind_s]
    obtain ⟨m, e⟩ := c_ofGuest ht hu hT h hS hk hg hs (othI S g)
    refine ⟨m, ?_⟩
    show (fX1_ofGuest (nI k) t u (nI g) (nI (S.wh g)) (othI S g) μ).bind _ = _
    rw [e, bind_s]
