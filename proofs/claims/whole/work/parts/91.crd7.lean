/-! ===== the component: any tell ===== -/
theorem c_lawT {K V : Nat → Nat} {N : Nat → List Nat} {P : Nat → Nat} {R : Rd} {m : Mem} {t e k : Nat} (hK : ∀ t, K t < 34) (hV : ∀ t, V t < 2 ^ 31) (hk : k < 4) (h : cRd K V N P R m t e) : cR (pb (lawP K V k t) fun l t1 => .ok (setL R k l, t1)) (fX4_readLaw 221 (nI k) m) (fun R' t' m' => ∃ e', cRd K V N P R' m' t' e') := by
  obtain ⟨q1, q2⟩ := c_readLaw hK hV hk h.ps h.la
  refine ⟨fun R' t' z => ?_, fun f t' z => ?_⟩
  · obtain ⟨l, t1, e1, e2⟩ := pb_ok z
    cases e2
    obtain ⟨m', e', x1, x2, x3, x4⟩ := q1 l t' e1
    have fr : Fr (WX4_readLaw 221) m m' := frX4_readLaw _ _ _ _ x1
    have ki : ∀ a j, ¬ (a = 3 ∧ (j = 0 ∨ j = 3)) → ¬ (221 ≤ a ∧ a ≤ 224) → m'.1 a j = m.1 a j := fun a j a1 a2 => (fr a j (by simp [WX4_readLaw, inW]; omega)).1
    have kl : ∀ a j, 229 ≤ a → a ≤ 230 → m'.2 a j = m.2 a j := fun a j a1 a2 => (fr a j (by simp [WX4_readLaw, inW]; omega)).2
    refine ⟨m', x1, e', x2, by rw [ki _ _ (by omega) (by omega)]; exact h.nS, h.s4, by rw [ki _ _ (by omega) (by omega)]; exact h.nG, h.g7, by rw [ki _ _ (by omega) (by omega)]; exact h.nf, h.f8, by rw [ki _ _ (by omega) (by omega)]; exact h.de, by rw [ki _ _ (by omega) (by omega)]; exact h.se, fun s hs => ?_, fun g hg => ?_, h.fg, x3, ?_⟩
    · have := h.lo s hs
      rw [ki _ _ (by omega) (by omega), ki _ _ (by omega) (by omega), kl _ _ (by omega) (by omega)]
      exact this
    · have := h.gu g hg
      rw [ki _ _ (by omega) (by omega), ki _ _ (by omega) (by omega), ki _ _ (by omega) (by omega), ki _ _ (by omega) (by omega), kl _ _ (by omega) (by omega)]
      exact this
    · have := h.lt
      show cLt P R.lt m'
      unfold cLt at this ⊢
      rw [ki 3 4 (by omega) (by omega), ki 3 5 (by omega) (by omega)]
      exact this
  · rcases pb_er z with y | ⟨l, t1, e1, e2⟩
    · exact q2 f t' y
    · cases e2
theorem cR.un {α : Type} {R : PR α} {X : Option (Bool × Mem)} {Q Q' : α → Nat → Mem → Prop} (h : cR R X Q) (k : ∀ a t m, Q a t m → Q' a t m) : cR R (X.bind fun q => some (q.1, q.2)) Q' := by
  refine ⟨fun a t' z => ?_, fun f t' z => ?_⟩
  · obtain ⟨m', x1, x2⟩ := h.1 a t' z
    exact ⟨m', by rw [x1, bind_s], k _ _ _ x2⟩
  · obtain ⟨m', x1, x2⟩ := h.2 f t' z
    exact ⟨m', by rw [x1, bind_s], x2⟩
theorem cR.mono {α : Type} {R : PR α} {X : Option (Bool × Mem)} {Q Q' : α → Nat → Mem → Prop} (h : cR R X Q) (k : ∀ a t m, Q a t m → Q' a t m) : cR R X Q' :=
  ⟨fun a t' z => by obtain ⟨m', x1, x2⟩ := h.1 a t' z; exact ⟨m', x1, k _ _ _ x2⟩, h.2⟩
theorem c_readTell {K V : Nat → Nat} {N : Nat → List Nat} {P : Nat → Nat} {R : Rd} {m : Mem} {t e : Nat} (hK : ∀ t, K t < 34) (hV : ∀ t, V t < 2 ^ 31) (hN : ∀ t, K t = 2 → ltOk (N t)) (h : cRd K V N P R m t e) : cR (telP K V N R t) (fX4_readTell 215 m) (fun R' t' m' => ∃ e', cRd K V N P R' m' t' e') := by
  have kt := hK t
  have ne : ∀ x, x < 100 → K t ≠ x → ¬ nI (K t) = nI x := fun x hx q z => q ((nI_eq (by omega) (by omega)).1 z)
  unfold telP fX4_readTell
  rw [c_kind h.ps, bind_s]
  by_cases c13 : K t = 13
  · rw [if_pos c13, if_pos (by rw [c13]; rfl)]
    exact (c_readSunday hK hV hN h).un (fun _ _ _ q => ⟨e, q⟩)
  rw [if_neg c13, if_neg (show ¬ nI (K t) = (13 : Int32) from ne 13 (by omega) c13)]
  by_cases c14 : K t = 14
  · rw [if_pos c14, if_pos (by rw [c14]; rfl)]
    exact (c_readGuest hK hV hN h).un (fun _ _ _ q => ⟨e, q⟩)
  rw [if_neg c14, if_neg (show ¬ nI (K t) = (14 : Int32) from ne 14 (by omega) c14)]
  by_cases c15 : K t = 15
  · rw [if_pos c15, if_pos (by rw [c15]; rfl)]
    exact (c_readFoes hK hN h).un (fun _ _ _ q => ⟨e, q⟩)
  rw [if_neg c15, if_neg (show ¬ nI (K t) = (15 : Int32) from ne 15 (by omega) c15)]
  by_cases cl : 16 ≤ K t ∧ K t ≤ 19
  · rw [if_pos cl, if_neg (show ¬ nI (K t) < 16 by rw [show (16 : Int32) = nI 16 from rfl]; exact nI_nlt cl.1 (by omega)), if_neg (show ¬ (19 : Int32) < nI (K t) by rw [show (19 : Int32) = nI 19 from rfl]; exact nI_nlt cl.2 (by omega)), show nI (K t) - 16 = nI (K t - 16) from nI_back (b := 16) cl.1]
    exact (c_lawT hK hV (by omega) h).un (fun _ _ _ q => q)
  rw [if_neg cl]
  have j66 : ∀ (A B : Option (Bool × Mem)), (if nI (K t) < 16 then A else if (19 : Int32) < nI (K t) then A else B) = A := by
    intro A B
    by_cases c : K t < 16
    · rw [if_pos (show nI (K t) < 16 by rw [show (16 : Int32) = nI 16 from rfl]; exact nI_lt c (by omega))]
    · rw [if_neg (show ¬ nI (K t) < 16 by rw [show (16 : Int32) = nI 16 from rfl]; exact nI_nlt (by omega) (by omega)), if_pos (show (19 : Int32) < nI (K t) by rw [show (19 : Int32) = nI 19 from rfl]; exact nI_lt (by omega) (by omega))]
  rw [j66]
  by_cases c20 : K t = 20
  · rw [if_pos c20, c20]
    exact (c_death hK hV h).mono (fun _ _ _ q => ⟨e, q⟩)
  rw [if_neg c20]
  by_cases c21 : K t = 21
  · rw [if_pos c21, c21]
    exact (c_seed hK hV h).mono (fun _ _ _ q => ⟨e, q⟩)
  rw [if_neg c21]
  unfold fX4_readTell_j66
  rw [if_neg (show ¬ nI (K t) = (20 : Int32) from ne 20 (by omega) c20), if_neg (show ¬ nI (K t) = (21 : Int32) from ne 21 (by omega) c21)]
  refine ⟨fun a t' z => (by cases z), fun f t' z => ?_⟩
  cases z
  unfold fX4_fail
  rw [nm_ap, bind_s]
  exact ⟨_, rfl, by rw [wI_i, if_pos ⟨rfl, rfl⟩]; rfl, by rw [wI_i, if_neg (by omega)]; exact h.ps.2.1⟩
