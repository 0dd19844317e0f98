/-! ===== what stays where nothing is written ===== -/
def Sm (lo hi : Nat) (μ μ' : Mem) : Prop := ∀ a j, lo ≤ a → a ≤ hi → μ'.1 a j = μ.1 a j ∧ μ'.2 a j = μ.2 a j
theorem Sm.of {lo hi : Nat} {μ μ' : Mem} {W} (h : Fr W μ μ') (k : ∀ a j, lo ≤ a → a ≤ hi → ¬ inW W a j) : Sm lo hi μ μ' := fun a j h1 h2 => h a j (k a j h1 h2)
theorem Sm.sub {lo hi lo' hi' : Nat} {μ μ' : Mem} (h : Sm lo hi μ μ') (h1 : lo ≤ lo') (h2 : hi' ≤ hi) : Sm lo' hi' μ μ' := fun a j k1 k2 => h a j (Nat.le_trans h1 k1) (Nat.le_trans k2 h2)
theorem Sm.i {lo hi : Nat} {μ μ' : Mem} (h : Sm lo hi μ μ') (a j : Nat) (h1 : lo ≤ a) (h2 : a ≤ hi) : μ'.1 a j = μ.1 a j := (h a j h1 h2).1
theorem Sm.l {lo hi : Nat} {μ μ' : Mem} (h : Sm lo hi μ μ') (a j : Nat) (h1 : lo ≤ a) (h2 : a ≤ hi) : μ'.2 a j = μ.2 a j := (h a j h1 h2).2
theorem cS.sm {t : Nat} {S : St} {μ μ' : Mem} (h : cS t S μ) (k : Sm t (t + 3) μ μ') : cS t S μ' := by
  refine ⟨?_, ?_, ?_, ?_, ?_, ?_, ?_⟩
  · rw [k.i t 0 (by omega) (by omega)]; exact h.wk
  · rw [k.i t 1 (by omega) (by omega)]; exact h.mo
  · rw [k.i t 2 (by omega) (by omega)]; exact h.dd
  · rw [k.i t 3 (by omega) (by omega)]; exact h.sd
  · intro s hs; rw [k.i (t + 1) s (by omega) (by omega)]; exact h.wh s hs
  · intro s hs; rw [k.i (t + 2) s (by omega) (by omega)]; exact h.wn s hs
  · intro s hs; rw [k.i (t + 3) s (by omega) (by omega)]; exact h.re s hs
theorem rS.sm {a f : Nat} {S : St} {μ μ' : Mem} (h : rS a f S μ) (k : Sm a a μ μ') : rS a f S μ' := by
  have e : ∀ j, μ'.1 a j = μ.1 a j := fun j => k.i a j (Nat.le_refl _) (Nat.le_refl _)
  refine ⟨?_, ?_, ?_, ?_, ?_, ?_, ?_⟩
  · intro g hg; rw [e]; exact h.wh g hg
  · intro g hg; rw [e]; exact h.re g hg
  · intro g hg; rw [e]; exact h.dd g hg
  · intro g hg; rw [e]; exact h.wn g hg
  · intro g hg; rw [e]; exact h.sd g hg
  · rw [e]; exact h.wk
  · rw [e]; exact h.mo
theorem cCode_sm {t : Nat} {μ μ' : Mem} (k : Sm t (t + 3) μ μ') : ∀ {c : List Ins} {p : Nat}, cCode μ t p c → cCode μ' t p c
  | [], _, h => h
  | x :: c, p, h => by
    refine ⟨?_, fun hx => ?_, cCode_sm k h.2.2⟩
    · rw [k.i (t + 1) p (by omega) (by omega)]; exact h.1
    · rw [k.i (t + 2) p (by omega) (by omega)]; exact h.2.1 hx
theorem cLaw_sm {t : Nat} {μ μ' : Mem} (k : Sm t (t + 3) μ μ') {las : List Ins} {e : Nat} : ∀ {r : List (List Ins × List Ins × List Ins)} {p : Nat}, cLaw μ t las p r e → cLaw μ' t las p r e
  | [], p, h => by
    refine ⟨cCode_sm k h.1, ?_, h.2.2⟩
    rw [k.i (t + 1) _ (by omega) (by omega)]; exact h.2.1
  | b :: r, p, h => by
    refine ⟨cCode_sm k h.1, ?_, ?_, cCode_sm k h.2.2.2.1, ?_, cLaw_sm k h.2.2.2.2.2⟩
    · rw [k.i (t + 1) _ (by omega) (by omega)]; exact h.2.1
    · rw [k.i (t + 2) _ (by omega) (by omega)]; exact h.2.2.1
    · rw [k.i (t + 1) _ (by omega) (by omega)]; exact h.2.2.2.2.1
theorem cT.sm {t : Nat} {T : Txt} {μ μ' : Mem} (h : cT t T μ) (k : Sm t (t + 15) μ μ') : cT t T μ' := by
  refine ⟨?_, ?_, ?_, ?_, ?_, ?_, ?_, ?_, ?_, ?_, ?_, ?_, ?_⟩
  · rw [k.i t 0 (by omega) (by omega)]; exact h.nS
  · rw [k.i t 3 (by omega) (by omega)]; exact h.nG
  · intro s hs; rw [k.i (t + 1) s (by omega) (by omega)]; exact h.lo s hs
  · intro s hs; rw [k.i (t + 2) s (by omega) (by omega)]; exact h.wo s hs
  · intro s hs; rw [k.i (t + 3) s (by omega) (by omega)]; exact h.hr s hs
  · intro s hs; rw [k.i (t + 4) s (by omega) (by omega)]; exact h.hs s hs
  · intro s hs; rw [k.i (t + 5) s (by omega) (by omega)]; exact h.fe s hs
  · rw [k.i t 8 (by omega) (by omega)]; exact h.de
  · rw [k.i t 9 (by omega) (by omega)]; exact h.se
  · intro s hs; rw [k.i (t + 10) s (by omega) (by omega)]; exact h.cl s hs
  · intro s hs; rw [k.l (t + 11) s (by omega) (by omega)]; exact h.sp s hs
  · intro s hs; rw [k.i (t + 12) s (by omega) (by omega)]; exact h.pc s hs
  · obtain ⟨e, h1, h2, h3⟩ := h.la
    refine ⟨e, h1, ?_, fun q hq => ?_⟩
    · rw [k.i (t + 6) 3 (by omega) (by omega)]; exact h2
    · obtain ⟨p, h4, h5⟩ := h3 q hq
      refine ⟨p, ?_, cLaw_sm (k.sub (by omega) (by omega)) h5⟩
      rw [k.i (t + 9) q (by omega) (by omega)]; exact h4
theorem rCode_sm {μ μ' : Mem} (k : Sm 264 272 μ μ') : ∀ {c : List Ins} {p : Nat}, rCode μ p c → rCode μ' p c
  | [], _, h => h
  | x :: c, p, h => by
    refine ⟨?_, fun hx => ?_, rCode_sm k h.2.2⟩
    · rw [k.i 271 p (by omega) (by omega)]; exact h.1
    · rw [k.i 272 p (by omega) (by omega)]; exact h.2.1 hx
theorem rLaw_sm {μ μ' : Mem} (k : Sm 264 272 μ μ') {las : List Ins} {e : Nat} : ∀ {r : List (List Ins × List Ins × List Ins)} {b p : Nat}, rLaw μ las b p r e → rLaw μ' las b p r e
  | [], b, p, h => by
    obtain ⟨h1, h2, h3, h4, h5⟩ := h
    refine ⟨?_, ?_, ?_, rCode_sm k h4, h5⟩
    · rw [k.i 266 b (by omega) (by omega)]; exact h1
    · rw [k.i 269 b (by omega) (by omega)]; exact h2
    · rw [k.i 270 b (by omega) (by omega)]; exact h3
  | c :: r, b, p, h => by
    obtain ⟨h1, h2, h3, h4, h5, h6, h7, h8, h9⟩ := h
    refine ⟨?_, ?_, rCode_sm k h3, ?_, rCode_sm k h5, ?_, rCode_sm k h7, ?_, rLaw_sm k h9⟩
    · rw [k.i 266 b (by omega) (by omega)]; exact h1
    · rw [k.i 267 b (by omega) (by omega)]; exact h2
    · rw [k.i 268 b (by omega) (by omega)]; exact h4
    · rw [k.i 269 b (by omega) (by omega)]; exact h6
    · rw [k.i 270 b (by omega) (by omega)]; exact h8
theorem rT.sm {v : Nat} {T : Txt} {μ μ' : Mem} (h : rT v T μ) (k : Sm 253 272 μ μ') : rT v T μ' := by
  refine ⟨?_, ?_, ?_, ?_, ?_, ?_, ?_, ?_, ?_, ?_, ?_⟩
  · rw [k.i 253 _ (by omega) (by omega)]; exact h.nS
  · rw [k.i 256 _ (by omega) (by omega)]; exact h.nG
  · intro s hs; rw [k.i 254 _ (by omega) (by omega)]; exact h.lo s hs
  · intro s hs; rw [k.i 255 _ (by omega) (by omega)]; exact h.wo s hs
  · intro s hs; rw [k.i 257 _ (by omega) (by omega)]; exact h.hr s hs
  · intro s hs; rw [k.i 258 _ (by omega) (by omega)]; exact h.hs s hs
  · intro s hs; rw [k.i 259 _ (by omega) (by omega)]; exact h.fe s hs
  · intro s hs; rw [k.i 260 _ (by omega) (by omega)]; exact h.fo s hs
  · rw [k.i 262 _ (by omega) (by omega)]; exact h.de
  · rw [k.i 263 _ (by omega) (by omega)]; exact h.se
  · intro q hq
    obtain ⟨b, e, h1, h2, h3⟩ := h.la q hq
    refine ⟨b, e, ?_, ?_, ?_⟩
    · rw [k.i 264 _ (by omega) (by omega)]; exact h1
    · rw [k.i 265 _ (by omega) (by omega)]; exact h2
    · rcases h3 with h3 | ⟨h4, p, h5, h6⟩
      · exact Or.inl h3
      · exact Or.inr ⟨h4, p, rLaw_sm (k.sub (by omega) (by omega)) h5, h6⟩
/-! the cells in which the component, or the reference, holds what counts -/
def cP (a j : Nat) : Prop := (a = 0 ∧ j = 11) ∨ a = 1 ∨ a = 2 ∨ (a = 3 ∧ j = 1) ∨ (8 ≤ a ∧ a ≤ 12) ∨ (17 ≤ a ∧ a ≤ 178) ∨ (196 ≤ a ∧ a ≤ 214) ∨ (231 ≤ a ∧ a ≤ 242)
def rP (a j : Nat) : Prop := (a = 243 ∧ (j = 2 ∨ j = 17 ∨ j = 18 ∨ j = 56 ∨ j = 62)) ∨ a = 244 ∨ a = 250 ∨ (253 ≤ a ∧ a ≤ 272) ∨ a = 276 ∨ a = 280 ∨ (285 ≤ a ∧ a ≤ 288)
def Ag (P : Nat → Nat → Prop) (μ μ' : Mem) : Prop := ∀ a j, P a j → μ'.1 a j = μ.1 a j ∧ μ'.2 a j = μ.2 a j
theorem Ag.of {P : Nat → Nat → Prop} {μ μ' : Mem} {W} (h : Fr W μ μ') (k : ∀ a j, P a j → ¬ inW W a j) : Ag P μ μ' := fun a j hp => h a j (k a j hp)
theorem CInv.ag {A : Abs} {μ μ' : Mem} (h : CInv A μ) (k : Ag cP μ μ') : CInv A μ' := by
  have sm : ∀ lo hi, (∀ a j, lo ≤ a → a ≤ hi → cP a j) → Sm lo hi μ μ' := fun lo hi hp a j h1 h2 => k a j (hp a j h1 h2)
  refine ⟨?_, ?_, ?_, h.T.sm (sm _ _ (by intro a j h1 h2; unfold cP; omega)), h.S.sm (sm _ _ (by intro a j h1 h2; unfold cP; omega)), ?_, ?_, ?_, ?_, ?_, ?_, ?_, ?_⟩
  · rw [(k 1 1 (by unfold cP; omega)).1]; exact h.tn
  · intro j hj; rw [(k 2 j (by unfold cP; omega)).1]; exact h.tb j hj
  · rw [(k 3 1 (by unfold cP; omega)).1]; exact h.pl
  · rw [(k 17 0 (by unfold cP; omega)).1]; exact h.hn
  · obtain ⟨p, h1, h2, h3⟩ := h.hi
    refine ⟨p, h1, ?_, fun i hi => (h3 i hi).sm (sm _ _ (by intro a j h1 h2; unfold cP; omega))⟩
    rw [(k 17 2 (by unfold cP; omega)).1]; exact h2
  · rw [(k 0 11 (by unfold cP; omega)).1]; exact h.hh
  · intro i s hi hs; exact (h.he i s hi hs).sm (sm _ _ (by intro a j h1 h2; unfold cP; omega))
  · rw [(k 196 0 (by unfold cP; omega)).1]; exact h.cn
  · intro i hi; rw [(k 197 i (by unfold cP; omega)).1]; exact h.ch i hi
  · intro i hi; rw [(k 198 i (by unfold cP; omega)).1]; exact h.ct i hi
  · intro w hw; rw [(k 8 w (by unfold cP; omega)).2]; exact h.ws w hw
theorem RInv.ag {A : Abs} {μ μ' : Mem} (h : RInv A μ) (k : Ag rP μ μ') : RInv A μ' := by
  have sm : ∀ lo hi, (∀ a j, lo ≤ a → a ≤ hi → rP a j) → Sm lo hi μ μ' := fun lo hi hp a j h1 h2 => k a j (hp a j h1 h2)
  refine ⟨?_, ?_, ?_, ?_, h.T.sm (sm _ _ (by intro a j h1 h2; unfold rP; omega)), h.S.sm (sm _ _ (by intro a j h1 h2; unfold rP; omega)), ?_, ?_, ?_, ?_, ?_, ?_, ?_, ?_⟩
  · rw [(k 243 2 (by unfold rP; omega)).1]; exact h.tn
  · intro j hj; rw [(k 244 j (by unfold rP; omega)).1]; exact h.tb j hj
  · rw [(k 243 17 (by unfold rP; omega)).1]; exact h.pl
  · rw [(k 243 18 (by unfold rP; omega)).1]; exact h.lv
  · rw [(k 243 56 (by unfold rP; omega)).1]; exact h.hn
  · intro i hi; exact (h.hi i hi).sm (sm _ _ (by intro a j h1 h2; unfold rP; omega))
  · intro i hi; rw [(k 287 i (by unfold rP; omega)).1]; exact h.hh i hi
  · intro i s hi hs; exact (h.he i s hi hs).sm (sm _ _ (by intro a j h1 h2; unfold rP; omega))
  · rw [(k 243 62 (by unfold rP; omega)).1]; exact h.cn
  · intro i hi; rw [(k 285 i (by unfold rP; omega)).1]; exact h.ch i hi
  · intro i hi; rw [(k 286 i (by unfold rP; omega)).1]; exact h.ct i hi
  · intro w hw; rw [(k 250 w (by unfold rP; omega)).2]; exact h.ws w hw
