/-! ===== a law of the component ===== -/
theorem cCode_app {μ : Mem} {t : Nat} : ∀ {u v : List Ins} {p : Nat}, cCode μ t p (u ++ v) → cCode μ t p u ∧ cCode μ t (p + u.length) v
  | [], v, p, h => ⟨trivial, h⟩
  | x :: u, v, p, h => by
    obtain ⟨h1, h2, h3⟩ := h
    obtain ⟨h4, h5⟩ := cCode_app (u := u) h3
    refine ⟨⟨h1, h2, h4⟩, ?_⟩
    rw [List.length_cons, show p + (u.length + 1) = p + 1 + u.length by omega]; exact h5
/-- a code and the end behind it -/
theorem ans_val {t E : Nat} {K : Mem → Option (Int32 × Mem)} (ht : t + 3 < 181 ∨ 182 < t) (E8 : E ≤ 408) {c : List Ins} {p n : Nat} {μ : Mem} (hE : μ.1 t 3 = nI E) (ok : okE c) (hc : cCode μ t p c) (h0 : μ.1 (t + 1) (p + c.length) = 0) (hp : p + c.length < E) (hn : c.length ≤ n) :
    ∃ m, fX2_answer_11 t K (n + 1) (nI 0) (nI p) μ = some ((evE (μ.1 181) c).getD 0, m) := by
  have run := ans_run (K := K) ht E8 c (n - c.length + 1) p [] 1 0 μ hE (by omega) (by omega) ok (by omega) (by simp) hc trivial
  rw [show n - c.length + 1 + c.length = n + 1 by omega] at run
  rcases ev_one (vs := μ.1 181) ok with ⟨q1, q2⟩ | ⟨a, q1, q2⟩
  · obtain ⟨m, e⟩ := run.1 q1
    exact ⟨m, by rw [q2]; exact e⟩
  · obtain ⟨m, e, s, x, l⟩ := run.2 _ q1
    refine ⟨m, ?_⟩
    rw [q2]
    refine Eq.trans e ?_
    have := ans_end (K := K) (n := n - c.length) (d := 0) (p := p + c.length) (E := E) (μ := m) (t := t) (by rw [(x t 3 (by omega)).1]; exact hE) hp E8 (by omega) (by rw [(x (t + 1) _ (by omega)).1]; exact h0)
    refine Eq.trans this ?_
    rw [show m.1 182 0 = a from s.1]; rfl
theorem cLaw_lt {μ : Mem} {t E : Nat} {las : List Ins} : ∀ {r : List (List Ins × List Ins × List Ins)} {p : Nat}, cLaw μ t las p r E → p < E
  | [], p, h => by have := h.2.2; omega
  | b :: r, p, h => by have := cLaw_lt h.2.2.2.2.2; omega
theorem ans_law {t E : Nat} {K : Mem → Option (Int32 × Mem)} (ht : t + 3 < 181 ∨ 182 < t) (E8 : E ≤ 408) {las : List Ins} (okl : okE las) : ∀ (r : List (List Ins × List Ins × List Ins)) (p n : Nat) (μ : Mem), μ.1 t 3 = nI E → cLaw μ t las p r E → (∀ b, b ∈ r → okE b.1 ∧ okE b.2.1 ∧ okE b.2.2) → E ≤ p + n → ∃ m, fX2_answer_11 t K (n + 1) (nI 0) (nI p) μ = some (evB (μ.1 181) las r, m)
  | [], p, n, μ, hE, hl, hk, hn => by
    obtain ⟨h1, h2, h3⟩ := hl
    exact ans_val ht E8 hE okl h1 h2 h3 (by omega)
  | b :: r, p, n, μ, hE, hl, hk, hn => by
    obtain ⟨h1, h2, h3, h4, h5, h6⟩ := hl
    obtain ⟨k1, k2, k3⟩ := hk b (List.mem_cons_self ..)
    obtain ⟨u1, u2⟩ := cCode_app h1
    rw [List.length_append] at h2 h3 h4 h5 h6
    have bnd := cLaw_lt h6
    have run1 := ans_run (K := K) ht E8 b.1 (n - b.1.length + 1) p [] 1 0 μ hE (by omega) (by omega) k1 (by omega) (by simp) u1 trivial
    rw [show n - b.1.length + 1 + b.1.length = n + 1 by omega] at run1
    rcases ev_one (vs := μ.1 181) k1 with ⟨q1, q2⟩ | ⟨a, q1, q2⟩
    · obtain ⟨m, e⟩ := run1.1 q1
      refine ⟨m, ?_⟩
      rw [evB, q2]; exact e
    obtain ⟨m, e, s, x, l⟩ := run1.2 _ q1
    have v181 : m.1 181 = μ.1 181 := funext fun j => (x 181 j (by omega)).1
    have hE2 : m.1 t 3 = nI E := by rw [(x t 3 (by omega)).1]; exact hE
    have run2 := ans_run (K := K) ht E8 b.2.1 (n - b.1.length - b.2.1.length + 1) (p + b.1.length) [a] 1 1 m hE2 (by omega) (by omega) k2 (by simp) (by simp) (cCode_sm (x.sm (by omega)) u2) s
    rw [show n - b.1.length - b.2.1.length + 1 + b.2.1.length = n - b.1.length + 1 by omega, v181, ev_on k2] at run2
    rcases ev_one (vs := μ.1 181) k2 with ⟨q3, q4⟩ | ⟨a2, q3, q4⟩
    · obtain ⟨m2, e2⟩ := run2.1 (by rw [q3]; rfl)
      refine ⟨m2, ?_⟩
      rw [evB, q2, q4]
      exact Eq.trans e e2
    obtain ⟨m2, e2, s2, x2, l2⟩ := run2.2 _ (by rw [q3]; rfl)
    have x3 := Ex.trans x x2
    have v2 : m2.1 181 = μ.1 181 := funext fun j => (x3 181 j (by omega)).1
    have hE3 : m2.1 t 3 = nI E := by rw [(x3 t 3 (by omega)).1]; exact hE
    have st1 : m2.1 182 1 = a2 := s2.1
    have st0 : m2.1 182 0 = a := s2.2.1
    have less := ans_less (K := K) (n := n - b.1.length - b.2.1.length) (d := 0) (p := p + (b.1.length + b.2.1.length)) (v := p + (b.1.length + b.2.1.length) + 1 + b.2.2.length) hE3 (by omega) E8 (by omega) (by rw [(x3 (t + 1) _ (by omega)).1]; exact h2) (by rw [(x3 (t + 2) _ (by omega)).1]; exact h3) (by omega) (by omega)
    rw [st1, st0] at less
    have e3 : fX2_answer_11 t K (n + 1) (nI 0) (nI p) μ = fX2_answer_11 t K (n - b.1.length - b.2.1.length + 1) (nI (0 + 2)) (nI (p + (b.1.length + b.2.1.length))) m2 := by
      refine Eq.trans e (Eq.trans e2 ?_)
      rw [show p + b.1.length + b.2.1.length = p + (b.1.length + b.2.1.length) by omega]; rfl
    rw [e3, less, evB, q2, q4]
    by_cases c : a < a2
    · simp only [if_pos c]
      have := ans_val (K := K) (c := b.2.2) (p := p + (b.1.length + b.2.1.length) + 1) (n := n - b.1.length - b.2.1.length - 1) ht E8 hE3 k3 (cCode_sm (x3.sm (by omega)) h4) (by rw [(x3 (t + 1) _ (by omega)).1]; exact h5) (by omega) (by omega)
      rw [show n - b.1.length - b.2.1.length - 1 + 1 = n - b.1.length - b.2.1.length by omega, v2] at this
      exact this
    · simp only [if_neg c]
      have := ans_law ht E8 okl r (p + (b.1.length + b.2.1.length) + 1 + b.2.2.length + 1) (n - b.1.length - b.2.1.length - 1) m2 hE3 (cLaw_sm (x3.sm (by omega)) h6) (fun q hq => hk q (List.mem_cons_of_mem _ hq)) (by omega) (K := K)
      rw [show n - b.1.length - b.2.1.length - 1 + 1 = n - b.1.length - b.2.1.length by omega, v2] at this
      exact this
