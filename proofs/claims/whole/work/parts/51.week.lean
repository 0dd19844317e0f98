/-! ===== a week: what it does to a state ===== -/
theorem lupE {α R : Type} {L : Nat → Int32 → α → Option R} (N : Nat) (I : Nat → α → Prop) {K : α → Option R}
    (hs : ∀ n i a, i < N → I i a → ∃ b, L (n + 1) (nI i) a = L n (nI (i + 1)) b ∧ I (i + 1) b)
    (he : ∀ n a, I N a → L (n + 1) (nI N) a = K a) : ∀ (k i n : Nat) (a : α), i + k = N → I i a → ∃ b, L (k + 1 + n) (nI i) a = K b ∧ I N b
  | 0, i, n, a, e, h => by
    have : i = N := by omega
    subst this
    rw [show 0 + 1 + n = n + 1 by omega]
    exact ⟨a, he n a h, h⟩
  | k + 1, i, n, a, e, h => by
    rw [show k + 1 + 1 + n = (k + 1 + n) + 1 by omega]
    obtain ⟨b, e1, h1⟩ := hs (k + 1 + n) i a (by omega) h
    obtain ⟨c, e2, h2⟩ := lupE N I hs he k (i + 1) n b (by omega) h1
    exact ⟨c, e1.trans e2, h2⟩
theorem lupX {α R : Type} {L : Nat → Int32 → α → Option R} (N : Nat) (I : Nat → α → Prop) {K : α → Option R} {a : α} (hN : N < 4096) (h0 : I 0 a)
    (hs : ∀ n i a, i < N → I i a → ∃ b, L (n + 1) (nI i) a = L n (nI (i + 1)) b ∧ I (i + 1) b)
    (he : ∀ n a, I N a → L (n + 1) (nI N) a = K a) : ∃ b, L FU 0 a = K b ∧ I N b := by
  obtain ⟨b, e, h⟩ := lupE N I hs he N 0 (4096 - (N + 1)) a (by omega) h0
  rw [show N + 1 + (4096 - (N + 1)) = FU by unfold FU; omega] at e
  exact ⟨b, e, h⟩
theorem h99_N (v : Int32) : h99 v = nI (h99 v).toNatClampNeg ∧ (h99 v).toNatClampNeg ≤ 99 := by
  unfold h99
  by_cases a : v < 0
  · rw [if_pos a]; decide
  · rw [if_neg a]
    by_cases b : (99 : Int32) < v
    · rw [if_pos b]; decide
    · rw [if_neg b]
      obtain ⟨n, hn, rfl⟩ := nI_of a
      have : ¬ 99 < n := fun q => b ((nI_ltI (a := 99) (by omega) hn).2 q)
      rw [nI_clamp (by omega)]
      exact ⟨rfl, by omega⟩
theorem lawV_N (T : Txt) (k : Nat) (vs : Nat → Int32) : lawV T k vs = nI (lawV T k vs).toNatClampNeg ∧ (lawV T k vs).toNatClampNeg ≤ 99 := h99_N _
theorem gLaw_N (T : Txt) (S : St) (k g : Nat) : gLaw T S k g = nI (gLaw T S k g).toNatClampNeg ∧ (gLaw T S k g).toNatClampNeg ≤ 99 := by
  unfold gLaw
  by_cases c : S.wh g = 9
  · rw [if_pos c]; decide
  · rw [if_neg c]; exact lawV_N _ _ _
def reN (T : Txt) (S : St) (g : Nat) : Nat := if S.wh g = 9 then (if S.dd g = true then S.re g else S.re g - 1) else min 999 (S.re g + (gLaw T S 1 g).toNatClampNeg)
def wnN (T : Txt) (S : St) (s : Nat) : Nat := if inB S s = 0 then S.wn s else min 99 (S.wn s + (lawV T 2 (vsS T S s)).toNatClampNeg)
def stI (a b : Int32) : Int32 := (((a ^^^ b) * 1103515245) + 12345) ^^^ (ush (((a ^^^ b) * 1103515245) + 12345) 15)
def lotI (l w : Int32) : Int32 := irm (ush (stI (stI l 165) w) 1) 100
def dieB (T : Txt) (S : St) (l : Int32) (g : Nat) : Bool := decide (T.de ≤ S.re g) && (!(S.wh g == 9) && decide (lotI l (8 * S.wk + nI g) < nI (S.re g) - nI T.de + 10))
def prS (T : Txt) (S : St) (m : Int32) (i : Nat) : St := St.mk S.wh (fun g => if g < i then reN T S g else S.re g) S.dd S.wn S.sd S.wk m
def weS (T : Txt) (S : St) (i : Nat) : St := St.mk S.wh S.re S.dd (fun s => if s < i then wnN T S s else S.wn s) S.sd S.wk S.mo
def buS (T : Txt) (S : St) (l : Int32) (i : Nat) : St := St.mk (fun g => if g < i ∧ dieB T S l g = true then 9 else S.wh g) S.re (fun g => S.dd g || (decide (g < i) && dieB T S l g)) S.wn S.sd S.wk S.mo
def sRe (S : St) (g r : Nat) : St := St.mk S.wh (fun x => if x = g then r else S.re x) S.dd S.wn S.sd S.wk S.mo
def sWn (S : St) (s r : Nat) : St := St.mk S.wh S.re S.dd (fun x => if x = s then r else S.wn x) S.sd S.wk S.mo
def sMo (S : St) (v : Int32) : St := St.mk S.wh S.re S.dd S.wn S.sd S.wk v
def sWk (S : St) (v : Int32) : St := St.mk S.wh S.re S.dd S.wn S.sd v S.mo
def sDd (S : St) (g : Nat) : St := St.mk S.wh S.re (fun x => (x == g) || S.dd x) S.wn S.sd S.wk S.mo
def payA (T : Txt) (S : St) (i : Nat) : Int32 := S.mo + smv (gLaw T S 0) i
/-- a week, with those who die (some lots) or without (none) -/
def wk0 (T : Txt) (S : St) : St := weS T (prS T S (payA T S T.nG) T.nG) T.nS
def weekF (T : Txt) (l : Option Int32) (S : St) : St := sWk (match l with | none => wk0 T S | some l => buS T (wk0 T S) l T.nG) (S.wk + 1)
theorem cS.sRe {u : Nat} {S : St} {μ : Mem} (h : cS u S μ) (g r : Nat) : cS u (sRe S g r) (wI μ (u + 3) g (nI r)) := by
  refine ⟨?_, ?_, ?_, ?_, ?_, ?_, ?_⟩
  · rw [wI_i, if_neg (by omega)]; exact h.wk
  · rw [wI_i, if_neg (by omega)]; exact h.mo
  · rw [wI_i, if_neg (by omega)]; exact h.dd
  · rw [wI_i, if_neg (by omega)]; exact h.sd
  · intro s hs; rw [wI_i, if_neg (by omega)]; exact h.wh s hs
  · intro s hs; rw [wI_i, if_neg (by omega)]; exact h.wn s hs
  · intro x hx
    show _ = nI (if x = g then r else S.re x)
    rw [wI_i]
    by_cases c : x = g
    · rw [if_pos ⟨rfl, c⟩, if_pos c]
    · rw [if_neg (by omega), if_neg c]; exact h.re x hx
theorem cS.sWn {u : Nat} {S : St} {μ : Mem} (h : cS u S μ) (g r : Nat) : cS u (sWn S g r) (wI μ (u + 2) g (nI r)) := by
  refine ⟨?_, ?_, ?_, ?_, ?_, ?_, ?_⟩
  · rw [wI_i, if_neg (by omega)]; exact h.wk
  · rw [wI_i, if_neg (by omega)]; exact h.mo
  · rw [wI_i, if_neg (by omega)]; exact h.dd
  · rw [wI_i, if_neg (by omega)]; exact h.sd
  · intro s hs; rw [wI_i, if_neg (by omega)]; exact h.wh s hs
  · intro x hx
    show _ = nI (if x = g then r else S.wn x)
    rw [wI_i]
    by_cases c : x = g
    · rw [if_pos ⟨rfl, c⟩, if_pos c]
    · rw [if_neg (by omega), if_neg c]; exact h.wn x hx
  · intro s hs; rw [wI_i, if_neg (by omega)]; exact h.re s hs
theorem cS.sMo {u : Nat} {S : St} {μ : Mem} (h : cS u S μ) (v : Int32) : cS u (sMo S v) (wI μ u 1 v) := by
  refine ⟨?_, ?_, ?_, ?_, ?_, ?_, ?_⟩
  · rw [wI_i, if_neg (by omega)]; exact h.wk
  · rw [wI_i, if_pos ⟨rfl, rfl⟩]; rfl
  · rw [wI_i, if_neg (by omega)]; exact h.dd
  · rw [wI_i, if_neg (by omega)]; exact h.sd
  · intro s hs; rw [wI_i, if_neg (by omega)]; exact h.wh s hs
  · intro s hs; rw [wI_i, if_neg (by omega)]; exact h.wn s hs
  · intro s hs; rw [wI_i, if_neg (by omega)]; exact h.re s hs
theorem cS.sWk {u : Nat} {S : St} {μ : Mem} (h : cS u S μ) (v : Int32) : cS u (sWk S v) (wI μ u 0 v) := by
  refine ⟨?_, ?_, ?_, ?_, ?_, ?_, ?_⟩
  · rw [wI_i, if_pos ⟨rfl, rfl⟩]; rfl
  · rw [wI_i, if_neg (by omega)]; exact h.mo
  · rw [wI_i, if_neg (by omega)]; exact h.dd
  · rw [wI_i, if_neg (by omega)]; exact h.sd
  · intro s hs; rw [wI_i, if_neg (by omega)]; exact h.wh s hs
  · intro s hs; rw [wI_i, if_neg (by omega)]; exact h.wn s hs
  · intro s hs; rw [wI_i, if_neg (by omega)]; exact h.re s hs
theorem cS.sDd {u : Nat} {S : St} {μ : Mem} (h : cS u S μ) {g : Nat} (hg : g < 7) : cS u (sDd S g) (wI μ u 2 (nI (bs S.dd 7 ||| 2 ^ g))) := by
  refine ⟨?_, ?_, ?_, ?_, ?_, ?_, ?_⟩
  · rw [wI_i, if_neg (by omega)]; exact h.wk
  · rw [wI_i, if_neg (by omega)]; exact h.mo
  · rw [wI_i, if_pos ⟨rfl, rfl⟩, bs_set hg]; rfl
  · rw [wI_i, if_neg (by omega)]; exact h.sd
  · intro s hs; rw [wI_i, if_neg (by omega)]; exact h.wh s hs
  · intro s hs; rw [wI_i, if_neg (by omega)]; exact h.wn s hs
  · intro s hs; rw [wI_i, if_neg (by omega)]; exact h.re s hs
theorem rS.set {S S' : St} {μ : Mem} (h : rS 277 0 S μ) (j : Nat) (v : Int32)
    (wh : ∀ g, g < 7 → (if g = j then v else whI (S.wh g)) = whI (S'.wh g)) (re : ∀ g, g < 7 → (if 7 + g = j then v else nI (S.re g)) = nI (S'.re g)) (dd : ∀ g, g < 7 → (if 14 + g = j then v else b2i (S.dd g)) = b2i (S'.dd g)) (wn : ∀ s, s < 4 → (if 21 + s = j then v else nI (S.wn s)) = nI (S'.wn s)) (sd : ∀ s, s < 4 → (if 25 + s = j then v else b2i (S.sd s)) = b2i (S'.sd s)) (wk : (if 29 = j then v else S.wk) = S'.wk) (mo : (if 30 = j then v else S.mo) = S'.mo) : rS 277 0 S' (wI μ 277 j v) := by
  have e : ∀ k, (wI μ 277 j v).1 277 k = if k = j then v else μ.1 277 k := by
    intro k
    rw [wI_i]
    by_cases c : k = j
    · rw [if_pos ⟨rfl, c⟩, if_pos c]
    · rw [if_neg (fun q => c q.2), if_neg c]
  refine ⟨?_, ?_, ?_, ?_, ?_, ?_, ?_⟩
  · intro g hg; rw [e, ← wh g hg, ← h.wh g hg, Nat.zero_add]
  · intro g hg; rw [e, ← re g hg, ← h.re g hg, Nat.zero_add]
  · intro g hg; rw [e, ← dd g hg, ← h.dd g hg, Nat.zero_add]
  · intro g hg; rw [e, ← wn g hg, ← h.wn g hg, Nat.zero_add]
  · intro g hg; rw [e, ← sd g hg, ← h.sd g hg, Nat.zero_add]
  · rw [e, ← wk, ← h.wk, Nat.zero_add]
  · rw [e, ← mo, ← h.mo, Nat.zero_add]
theorem rS.sRe {S : St} {μ : Mem} (h : rS 277 0 S μ) {g : Nat} (hg : g < 7) (r : Nat) : rS 277 0 (sRe S g r) (wI μ 277 (7 + g) (nI r)) := by
  refine h.set _ _ ?_ ?_ ?_ ?_ ?_ ?_ ?_
  · intro x hx; rw [if_neg (by omega)]; rfl
  · intro x hx
    show _ = nI (if x = g then r else S.re x)
    by_cases c : x = g
    · rw [if_pos (by omega), if_pos c]
    · rw [if_neg (by omega), if_neg c]
  · intro x hx; rw [if_neg (by omega)]; rfl
  · intro x hx; rw [if_neg (by omega)]; rfl
  · intro x hx; rw [if_neg (by omega)]; rfl
  · rw [if_neg (by omega)]; rfl
  · rw [if_neg (by omega)]; rfl
theorem rS.sWn {S : St} {μ : Mem} (h : rS 277 0 S μ) {g : Nat} (hg : g < 4) (r : Nat) : rS 277 0 (sWn S g r) (wI μ 277 (21 + g) (nI r)) := by
  refine h.set _ _ ?_ ?_ ?_ ?_ ?_ ?_ ?_
  · intro x hx; rw [if_neg (by omega)]; rfl
  · intro x hx; rw [if_neg (by omega)]; rfl
  · intro x hx; rw [if_neg (by omega)]; rfl
  · intro x hx
    show _ = nI (if x = g then r else S.wn x)
    by_cases c : x = g
    · rw [if_pos (by omega), if_pos c]
    · rw [if_neg (by omega), if_neg c]
  · intro x hx; rw [if_neg (by omega)]; rfl
  · rw [if_neg (by omega)]; rfl
  · rw [if_neg (by omega)]; rfl
theorem rS.sMo {S : St} {μ : Mem} (h : rS 277 0 S μ) (v : Int32) : rS 277 0 (sMo S v) (wI μ 277 30 v) := by
  refine h.set _ _ ?_ ?_ ?_ ?_ ?_ ?_ ?_
  · intro x hx; rw [if_neg (by omega)]; rfl
  · intro x hx; rw [if_neg (by omega)]; rfl
  · intro x hx; rw [if_neg (by omega)]; rfl
  · intro x hx; rw [if_neg (by omega)]; rfl
  · intro x hx; rw [if_neg (by omega)]; rfl
  · rw [if_neg (by omega)]; rfl
  · rw [if_pos rfl]; rfl
theorem rS.sWk {S : St} {μ : Mem} (h : rS 277 0 S μ) (v : Int32) : rS 277 0 (sWk S v) (wI μ 277 29 v) := by
  refine h.set _ _ ?_ ?_ ?_ ?_ ?_ ?_ ?_
  · intro x hx; rw [if_neg (by omega)]; rfl
  · intro x hx; rw [if_neg (by omega)]; rfl
  · intro x hx; rw [if_neg (by omega)]; rfl
  · intro x hx; rw [if_neg (by omega)]; rfl
  · intro x hx; rw [if_neg (by omega)]; rfl
  · rw [if_pos rfl]; rfl
  · rw [if_neg (by omega)]; rfl
theorem rS.sDd {S : St} {μ : Mem} (h : rS 277 0 S μ) {g : Nat} (hg : g < 7) : rS 277 0 (sDd S g) (wI μ 277 (14 + g) 1) := by
  refine h.set _ _ ?_ ?_ ?_ ?_ ?_ ?_ ?_
  · intro x hx; rw [if_neg (by omega)]; rfl
  · intro x hx; rw [if_neg (by omega)]; rfl
  · intro x hx
    show _ = b2i ((x == g) || S.dd x)
    by_cases c : x = g
    · rw [if_pos (by omega), beq_iff_eq.2 c]; rfl
    · rw [if_neg (by omega), beq_eq_false_iff_ne.2 c]; rfl
  · intro x hx; rw [if_neg (by omega)]; rfl
  · intro x hx; rw [if_neg (by omega)]; rfl
  · rw [if_neg (by omega)]; rfl
  · rw [if_neg (by omega)]; rfl
theorem St.ext2 {a b : St} (wh : ∀ g, a.wh g = b.wh g) (re : ∀ g, a.re g = b.re g) (dd : ∀ g, a.dd g = b.dd g) (wn : ∀ g, a.wn g = b.wn g) (sd : ∀ g, a.sd g = b.sd g) (wk : a.wk = b.wk) (mo : a.mo = b.mo) : a = b := by
  rcases a with ⟨a1, a2, a3, a4, a5, a6, a7⟩
  rcases b with ⟨b1, b2, b3, b4, b5, b6, b7⟩
  have e1 : a1 = b1 := funext wh
  have e2 : a2 = b2 := funext re
  have e3 : a3 = b3 := funext dd
  have e4 : a4 = b4 := funext wn
  have e5 : a5 = b5 := funext sd
  have e6 : a6 = b6 := wk
  have e7 : a7 = b7 := mo
  subst e1 e2 e3 e4 e5 e6 e7
  rfl
theorem prS_0 (T : Txt) (S : St) : prS T S S.mo 0 = S := by
  apply St.ext2 <;> intros <;> first | rfl | (show (if _ < 0 then _ else _) = _; rw [if_neg (by omega)])
theorem prS_s (T : Txt) (S : St) (m m' : Int32) (i : Nat) : prS T S m' (i + 1) = sRe (sMo (prS T S m i) m') i (reN T S i) := by
  apply St.ext2 <;> intros <;> try rfl
  next g =>
    show (if g < i + 1 then reN T S g else S.re g) = if g = i then reN T S i else if g < i then reN T S g else S.re g
    by_cases c : g = i
    · subst c; rw [if_pos (by omega), if_pos rfl]
    · rw [if_neg c]
      by_cases d : g < i
      · rw [if_pos d, if_pos (by omega)]
      · rw [if_neg d, if_neg (by omega)]
theorem weS_0 (T : Txt) (S : St) : weS T S 0 = S := by
  apply St.ext2 <;> intros <;> first | rfl | (show (if _ < 0 then _ else _) = _; rw [if_neg (by omega)])
theorem weS_s (T : Txt) (S : St) (i : Nat) : weS T S (i + 1) = sWn (weS T S i) i (wnN T S i) := by
  apply St.ext2 <;> intros <;> try rfl
  next g =>
    show (if g < i + 1 then wnN T S g else S.wn g) = if g = i then wnN T S i else if g < i then wnN T S g else S.wn g
    by_cases c : g = i
    · subst c; rw [if_pos (by omega), if_pos rfl]
    · rw [if_neg c]
      by_cases d : g < i
      · rw [if_pos d, if_pos (by omega)]
      · rw [if_neg d, if_neg (by omega)]
theorem buS_0 (T : Txt) (S : St) (l : Int32) : buS T S l 0 = S := by
  apply St.ext2 <;> intros <;> try rfl
  next g => show (S.dd g || (decide (g < 0) && dieB T S l g)) = _; simp
theorem buS_no (T : Txt) (S : St) (l : Int32) (i : Nat) (h : dieB T S l i = false) : buS T S l (i + 1) = buS T S l i := by
  apply St.ext2 <;> intros <;> try rfl
  · next g =>
    show (if g < i + 1 ∧ dieB T S l g = true then 9 else S.wh g) = if g < i ∧ dieB T S l g = true then 9 else S.wh g
    by_cases c : g = i
    · subst c; rw [h]; simp
    · have : g < i + 1 ↔ g < i := by omega
      simp only [this]
  · next g =>
    show (S.dd g || (decide (g < i + 1) && dieB T S l g)) = (S.dd g || (decide (g < i) && dieB T S l g))
    by_cases c : g = i
    · subst c; rw [h]; simp
    · have : (g < i + 1) = (g < i) := by apply propext; omega
      simp only [this]
theorem buS_yes (T : Txt) (S : St) (l : Int32) (i : Nat) (h : dieB T S l i = true) : buS T S l (i + 1) = outS (sDd (buS T S l i) i) i := by
  apply St.ext2 <;> intros <;> try rfl
  · next g =>
    show (if g < i + 1 ∧ dieB T S l g = true then 9 else S.wh g) = if g = i then 9 else if g < i ∧ dieB T S l g = true then 9 else S.wh g
    by_cases c : g = i
    · subst c; rw [if_pos rfl, if_pos ⟨by omega, h⟩]
    · have : g < i + 1 ↔ g < i := by omega
      rw [if_neg c]; simp only [this]
  · next g =>
    show (S.dd g || (decide (g < i + 1) && dieB T S l g)) = ((g == i) || (S.dd g || (decide (g < i) && dieB T S l g)))
    by_cases c : g = i
    · subst c; rw [h]; simp
    · have : (g < i + 1) = (g < i) := by apply propext; omega
      have e : (g == i) = false := by simpa using c
      simp only [this, e, Bool.false_or]
