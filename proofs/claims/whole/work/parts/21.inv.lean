/-! ===== what both sides hold: a text, a state, a trail, slots, clues, a tape ===== -/
/-- (0, n): the number n; (1, k): the variable k; (k, _) with k in 2..5: + - * / -/
abbrev Ins : Type := Nat × Nat
abbrev LawT : Type := List (List Ins × List Ins × List Ins) × List Ins
abbrev Txt : Type := (Nat) × (Nat) × (Nat → Nat) × (Nat → Nat) × (Nat → Nat) × (Nat → Nat) × (Nat → Nat) × (Nat → Nat → Bool) × (Nat) × (Nat) × (Nat → LawT) × (Nat → Bool)
abbrev Txt.mk (nS : Nat) (nG : Nat) (lo : Nat → Nat) (wo : Nat → Nat) (hr : Nat → Nat) (hs : Nat → Nat) (fe : Nat → Nat) (fo : Nat → Nat → Bool) (de : Nat) (se : Nat) (la : Nat → LawT) (tl : Nat → Bool) : Txt := (nS, nG, lo, wo, hr, hs, fe, fo, de, se, la, tl)
def Txt.nS (x : Txt) : Nat := x.1
def Txt.nG (x : Txt) : Nat := x.2.1
def Txt.lo (x : Txt) : Nat → Nat := x.2.2.1
def Txt.wo (x : Txt) : Nat → Nat := x.2.2.2.1
def Txt.hr (x : Txt) : Nat → Nat := x.2.2.2.2.1
def Txt.hs (x : Txt) : Nat → Nat := x.2.2.2.2.2.1
def Txt.fe (x : Txt) : Nat → Nat := x.2.2.2.2.2.2.1
def Txt.fo (x : Txt) : Nat → Nat → Bool := x.2.2.2.2.2.2.2.1
def Txt.de (x : Txt) : Nat := x.2.2.2.2.2.2.2.2.1
def Txt.se (x : Txt) : Nat := x.2.2.2.2.2.2.2.2.2.1
def Txt.la (x : Txt) : Nat → LawT := x.2.2.2.2.2.2.2.2.2.2.1
def Txt.tl (x : Txt) : Nat → Bool := x.2.2.2.2.2.2.2.2.2.2.2
theorem Txt.nS_mk (nS_ : Nat) (nG_ : Nat) (lo_ : Nat → Nat) (wo_ : Nat → Nat) (hr_ : Nat → Nat) (hs_ : Nat → Nat) (fe_ : Nat → Nat) (fo_ : Nat → Nat → Bool) (de_ : Nat) (se_ : Nat) (la_ : Nat → LawT) (tl_ : Nat → Bool) : (Txt.mk nS_ nG_ lo_ wo_ hr_ hs_ fe_ fo_ de_ se_ la_ tl_).nS = nS_ := rfl
theorem Txt.nG_mk (nS_ : Nat) (nG_ : Nat) (lo_ : Nat → Nat) (wo_ : Nat → Nat) (hr_ : Nat → Nat) (hs_ : Nat → Nat) (fe_ : Nat → Nat) (fo_ : Nat → Nat → Bool) (de_ : Nat) (se_ : Nat) (la_ : Nat → LawT) (tl_ : Nat → Bool) : (Txt.mk nS_ nG_ lo_ wo_ hr_ hs_ fe_ fo_ de_ se_ la_ tl_).nG = nG_ := rfl
theorem Txt.lo_mk (nS_ : Nat) (nG_ : Nat) (lo_ : Nat → Nat) (wo_ : Nat → Nat) (hr_ : Nat → Nat) (hs_ : Nat → Nat) (fe_ : Nat → Nat) (fo_ : Nat → Nat → Bool) (de_ : Nat) (se_ : Nat) (la_ : Nat → LawT) (tl_ : Nat → Bool) : (Txt.mk nS_ nG_ lo_ wo_ hr_ hs_ fe_ fo_ de_ se_ la_ tl_).lo = lo_ := rfl
theorem Txt.wo_mk (nS_ : Nat) (nG_ : Nat) (lo_ : Nat → Nat) (wo_ : Nat → Nat) (hr_ : Nat → Nat) (hs_ : Nat → Nat) (fe_ : Nat → Nat) (fo_ : Nat → Nat → Bool) (de_ : Nat) (se_ : Nat) (la_ : Nat → LawT) (tl_ : Nat → Bool) : (Txt.mk nS_ nG_ lo_ wo_ hr_ hs_ fe_ fo_ de_ se_ la_ tl_).wo = wo_ := rfl
theorem Txt.hr_mk (nS_ : Nat) (nG_ : Nat) (lo_ : Nat → Nat) (wo_ : Nat → Nat) (hr_ : Nat → Nat) (hs_ : Nat → Nat) (fe_ : Nat → Nat) (fo_ : Nat → Nat → Bool) (de_ : Nat) (se_ : Nat) (la_ : Nat → LawT) (tl_ : Nat → Bool) : (Txt.mk nS_ nG_ lo_ wo_ hr_ hs_ fe_ fo_ de_ se_ la_ tl_).hr = hr_ := rfl
theorem Txt.hs_mk (nS_ : Nat) (nG_ : Nat) (lo_ : Nat → Nat) (wo_ : Nat → Nat) (hr_ : Nat → Nat) (hs_ : Nat → Nat) (fe_ : Nat → Nat) (fo_ : Nat → Nat → Bool) (de_ : Nat) (se_ : Nat) (la_ : Nat → LawT) (tl_ : Nat → Bool) : (Txt.mk nS_ nG_ lo_ wo_ hr_ hs_ fe_ fo_ de_ se_ la_ tl_).hs = hs_ := rfl
theorem Txt.fe_mk (nS_ : Nat) (nG_ : Nat) (lo_ : Nat → Nat) (wo_ : Nat → Nat) (hr_ : Nat → Nat) (hs_ : Nat → Nat) (fe_ : Nat → Nat) (fo_ : Nat → Nat → Bool) (de_ : Nat) (se_ : Nat) (la_ : Nat → LawT) (tl_ : Nat → Bool) : (Txt.mk nS_ nG_ lo_ wo_ hr_ hs_ fe_ fo_ de_ se_ la_ tl_).fe = fe_ := rfl
theorem Txt.fo_mk (nS_ : Nat) (nG_ : Nat) (lo_ : Nat → Nat) (wo_ : Nat → Nat) (hr_ : Nat → Nat) (hs_ : Nat → Nat) (fe_ : Nat → Nat) (fo_ : Nat → Nat → Bool) (de_ : Nat) (se_ : Nat) (la_ : Nat → LawT) (tl_ : Nat → Bool) : (Txt.mk nS_ nG_ lo_ wo_ hr_ hs_ fe_ fo_ de_ se_ la_ tl_).fo = fo_ := rfl
theorem Txt.de_mk (nS_ : Nat) (nG_ : Nat) (lo_ : Nat → Nat) (wo_ : Nat → Nat) (hr_ : Nat → Nat) (hs_ : Nat → Nat) (fe_ : Nat → Nat) (fo_ : Nat → Nat → Bool) (de_ : Nat) (se_ : Nat) (la_ : Nat → LawT) (tl_ : Nat → Bool) : (Txt.mk nS_ nG_ lo_ wo_ hr_ hs_ fe_ fo_ de_ se_ la_ tl_).de = de_ := rfl
theorem Txt.se_mk (nS_ : Nat) (nG_ : Nat) (lo_ : Nat → Nat) (wo_ : Nat → Nat) (hr_ : Nat → Nat) (hs_ : Nat → Nat) (fe_ : Nat → Nat) (fo_ : Nat → Nat → Bool) (de_ : Nat) (se_ : Nat) (la_ : Nat → LawT) (tl_ : Nat → Bool) : (Txt.mk nS_ nG_ lo_ wo_ hr_ hs_ fe_ fo_ de_ se_ la_ tl_).se = se_ := rfl
theorem Txt.la_mk (nS_ : Nat) (nG_ : Nat) (lo_ : Nat → Nat) (wo_ : Nat → Nat) (hr_ : Nat → Nat) (hs_ : Nat → Nat) (fe_ : Nat → Nat) (fo_ : Nat → Nat → Bool) (de_ : Nat) (se_ : Nat) (la_ : Nat → LawT) (tl_ : Nat → Bool) : (Txt.mk nS_ nG_ lo_ wo_ hr_ hs_ fe_ fo_ de_ se_ la_ tl_).la = la_ := rfl
theorem Txt.tl_mk (nS_ : Nat) (nG_ : Nat) (lo_ : Nat → Nat) (wo_ : Nat → Nat) (hr_ : Nat → Nat) (hs_ : Nat → Nat) (fe_ : Nat → Nat) (fo_ : Nat → Nat → Bool) (de_ : Nat) (se_ : Nat) (la_ : Nat → LawT) (tl_ : Nat → Bool) : (Txt.mk nS_ nG_ lo_ wo_ hr_ hs_ fe_ fo_ de_ se_ la_ tl_).tl = tl_ := rfl
abbrev St : Type := (Nat → Nat) × (Nat → Nat) × (Nat → Bool) × (Nat → Nat) × (Nat → Bool) × (Int32) × (Int32)
abbrev St.mk (wh : Nat → Nat) (re : Nat → Nat) (dd : Nat → Bool) (wn : Nat → Nat) (sd : Nat → Bool) (wk : Int32) (mo : Int32) : St := (wh, re, dd, wn, sd, wk, mo)
def St.wh (x : St) : Nat → Nat := x.1
def St.re (x : St) : Nat → Nat := x.2.1
def St.dd (x : St) : Nat → Bool := x.2.2.1
def St.wn (x : St) : Nat → Nat := x.2.2.2.1
def St.sd (x : St) : Nat → Bool := x.2.2.2.2.1
def St.wk (x : St) : Int32 := x.2.2.2.2.2.1
def St.mo (x : St) : Int32 := x.2.2.2.2.2.2
theorem St.wh_mk (wh_ : Nat → Nat) (re_ : Nat → Nat) (dd_ : Nat → Bool) (wn_ : Nat → Nat) (sd_ : Nat → Bool) (wk_ : Int32) (mo_ : Int32) : (St.mk wh_ re_ dd_ wn_ sd_ wk_ mo_).wh = wh_ := rfl
theorem St.re_mk (wh_ : Nat → Nat) (re_ : Nat → Nat) (dd_ : Nat → Bool) (wn_ : Nat → Nat) (sd_ : Nat → Bool) (wk_ : Int32) (mo_ : Int32) : (St.mk wh_ re_ dd_ wn_ sd_ wk_ mo_).re = re_ := rfl
theorem St.dd_mk (wh_ : Nat → Nat) (re_ : Nat → Nat) (dd_ : Nat → Bool) (wn_ : Nat → Nat) (sd_ : Nat → Bool) (wk_ : Int32) (mo_ : Int32) : (St.mk wh_ re_ dd_ wn_ sd_ wk_ mo_).dd = dd_ := rfl
theorem St.wn_mk (wh_ : Nat → Nat) (re_ : Nat → Nat) (dd_ : Nat → Bool) (wn_ : Nat → Nat) (sd_ : Nat → Bool) (wk_ : Int32) (mo_ : Int32) : (St.mk wh_ re_ dd_ wn_ sd_ wk_ mo_).wn = wn_ := rfl
theorem St.sd_mk (wh_ : Nat → Nat) (re_ : Nat → Nat) (dd_ : Nat → Bool) (wn_ : Nat → Nat) (sd_ : Nat → Bool) (wk_ : Int32) (mo_ : Int32) : (St.mk wh_ re_ dd_ wn_ sd_ wk_ mo_).sd = sd_ := rfl
theorem St.wk_mk (wh_ : Nat → Nat) (re_ : Nat → Nat) (dd_ : Nat → Bool) (wn_ : Nat → Nat) (sd_ : Nat → Bool) (wk_ : Int32) (mo_ : Int32) : (St.mk wh_ re_ dd_ wn_ sd_ wk_ mo_).wk = wk_ := rfl
theorem St.mo_mk (wh_ : Nat → Nat) (re_ : Nat → Nat) (dd_ : Nat → Bool) (wn_ : Nat → Nat) (sd_ : Nat → Bool) (wk_ : Int32) (mo_ : Int32) : (St.mk wh_ re_ dd_ wn_ sd_ wk_ mo_).mo = mo_ := rfl
abbrev Abs : Type := (Txt) × (St) × (Nat) × (Nat → St) × (Nat → Option St) × (Nat) × (Nat → Nat) × (Nat → Bool) × (Nat) × (Nat → Int32) × (Int32) × (Nat)
abbrev Abs.mk (T : Txt) (S : St) (k : Nat) (hi : Nat → St) (he : Nat → Option St) (cl : Nat) (ch : Nat → Nat) (ct : Nat → Bool) (tn : Nat) (tb : Nat → Int32) (pl : Int32) (lv : Nat) : Abs := (T, S, k, hi, he, cl, ch, ct, tn, tb, pl, lv)
def Abs.T (x : Abs) : Txt := x.1
def Abs.S (x : Abs) : St := x.2.1
def Abs.k (x : Abs) : Nat := x.2.2.1
def Abs.hi (x : Abs) : Nat → St := x.2.2.2.1
def Abs.he (x : Abs) : Nat → Option St := x.2.2.2.2.1
def Abs.cl (x : Abs) : Nat := x.2.2.2.2.2.1
def Abs.ch (x : Abs) : Nat → Nat := x.2.2.2.2.2.2.1
def Abs.ct (x : Abs) : Nat → Bool := x.2.2.2.2.2.2.2.1
def Abs.tn (x : Abs) : Nat := x.2.2.2.2.2.2.2.2.1
def Abs.tb (x : Abs) : Nat → Int32 := x.2.2.2.2.2.2.2.2.2.1
def Abs.pl (x : Abs) : Int32 := x.2.2.2.2.2.2.2.2.2.2.1
def Abs.lv (x : Abs) : Nat := x.2.2.2.2.2.2.2.2.2.2.2
theorem Abs.T_mk (T_ : Txt) (S_ : St) (k_ : Nat) (hi_ : Nat → St) (he_ : Nat → Option St) (cl_ : Nat) (ch_ : Nat → Nat) (ct_ : Nat → Bool) (tn_ : Nat) (tb_ : Nat → Int32) (pl_ : Int32) (lv_ : Nat) : (Abs.mk T_ S_ k_ hi_ he_ cl_ ch_ ct_ tn_ tb_ pl_ lv_).T = T_ := rfl
theorem Abs.S_mk (T_ : Txt) (S_ : St) (k_ : Nat) (hi_ : Nat → St) (he_ : Nat → Option St) (cl_ : Nat) (ch_ : Nat → Nat) (ct_ : Nat → Bool) (tn_ : Nat) (tb_ : Nat → Int32) (pl_ : Int32) (lv_ : Nat) : (Abs.mk T_ S_ k_ hi_ he_ cl_ ch_ ct_ tn_ tb_ pl_ lv_).S = S_ := rfl
theorem Abs.k_mk (T_ : Txt) (S_ : St) (k_ : Nat) (hi_ : Nat → St) (he_ : Nat → Option St) (cl_ : Nat) (ch_ : Nat → Nat) (ct_ : Nat → Bool) (tn_ : Nat) (tb_ : Nat → Int32) (pl_ : Int32) (lv_ : Nat) : (Abs.mk T_ S_ k_ hi_ he_ cl_ ch_ ct_ tn_ tb_ pl_ lv_).k = k_ := rfl
theorem Abs.hi_mk (T_ : Txt) (S_ : St) (k_ : Nat) (hi_ : Nat → St) (he_ : Nat → Option St) (cl_ : Nat) (ch_ : Nat → Nat) (ct_ : Nat → Bool) (tn_ : Nat) (tb_ : Nat → Int32) (pl_ : Int32) (lv_ : Nat) : (Abs.mk T_ S_ k_ hi_ he_ cl_ ch_ ct_ tn_ tb_ pl_ lv_).hi = hi_ := rfl
theorem Abs.he_mk (T_ : Txt) (S_ : St) (k_ : Nat) (hi_ : Nat → St) (he_ : Nat → Option St) (cl_ : Nat) (ch_ : Nat → Nat) (ct_ : Nat → Bool) (tn_ : Nat) (tb_ : Nat → Int32) (pl_ : Int32) (lv_ : Nat) : (Abs.mk T_ S_ k_ hi_ he_ cl_ ch_ ct_ tn_ tb_ pl_ lv_).he = he_ := rfl
theorem Abs.cl_mk (T_ : Txt) (S_ : St) (k_ : Nat) (hi_ : Nat → St) (he_ : Nat → Option St) (cl_ : Nat) (ch_ : Nat → Nat) (ct_ : Nat → Bool) (tn_ : Nat) (tb_ : Nat → Int32) (pl_ : Int32) (lv_ : Nat) : (Abs.mk T_ S_ k_ hi_ he_ cl_ ch_ ct_ tn_ tb_ pl_ lv_).cl = cl_ := rfl
theorem Abs.ch_mk (T_ : Txt) (S_ : St) (k_ : Nat) (hi_ : Nat → St) (he_ : Nat → Option St) (cl_ : Nat) (ch_ : Nat → Nat) (ct_ : Nat → Bool) (tn_ : Nat) (tb_ : Nat → Int32) (pl_ : Int32) (lv_ : Nat) : (Abs.mk T_ S_ k_ hi_ he_ cl_ ch_ ct_ tn_ tb_ pl_ lv_).ch = ch_ := rfl
theorem Abs.ct_mk (T_ : Txt) (S_ : St) (k_ : Nat) (hi_ : Nat → St) (he_ : Nat → Option St) (cl_ : Nat) (ch_ : Nat → Nat) (ct_ : Nat → Bool) (tn_ : Nat) (tb_ : Nat → Int32) (pl_ : Int32) (lv_ : Nat) : (Abs.mk T_ S_ k_ hi_ he_ cl_ ch_ ct_ tn_ tb_ pl_ lv_).ct = ct_ := rfl
theorem Abs.tn_mk (T_ : Txt) (S_ : St) (k_ : Nat) (hi_ : Nat → St) (he_ : Nat → Option St) (cl_ : Nat) (ch_ : Nat → Nat) (ct_ : Nat → Bool) (tn_ : Nat) (tb_ : Nat → Int32) (pl_ : Int32) (lv_ : Nat) : (Abs.mk T_ S_ k_ hi_ he_ cl_ ch_ ct_ tn_ tb_ pl_ lv_).tn = tn_ := rfl
theorem Abs.tb_mk (T_ : Txt) (S_ : St) (k_ : Nat) (hi_ : Nat → St) (he_ : Nat → Option St) (cl_ : Nat) (ch_ : Nat → Nat) (ct_ : Nat → Bool) (tn_ : Nat) (tb_ : Nat → Int32) (pl_ : Int32) (lv_ : Nat) : (Abs.mk T_ S_ k_ hi_ he_ cl_ ch_ ct_ tn_ tb_ pl_ lv_).tb = tb_ := rfl
theorem Abs.pl_mk (T_ : Txt) (S_ : St) (k_ : Nat) (hi_ : Nat → St) (he_ : Nat → Option St) (cl_ : Nat) (ch_ : Nat → Nat) (ct_ : Nat → Bool) (tn_ : Nat) (tb_ : Nat → Int32) (pl_ : Int32) (lv_ : Nat) : (Abs.mk T_ S_ k_ hi_ he_ cl_ ch_ ct_ tn_ tb_ pl_ lv_).pl = pl_ := rfl
theorem Abs.lv_mk (T_ : Txt) (S_ : St) (k_ : Nat) (hi_ : Nat → St) (he_ : Nat → Option St) (cl_ : Nat) (ch_ : Nat → Nat) (ct_ : Nat → Bool) (tn_ : Nat) (tb_ : Nat → Int32) (pl_ : Int32) (lv_ : Nat) : (Abs.mk T_ S_ k_ hi_ he_ cl_ ch_ ct_ tn_ tb_ pl_ lv_).lv = lv_ := rfl
/-! laws -/
def dpt : List Ins → Nat → Option Nat
  | [], d => some d
  | x :: c, d => if x.1 = 0 then (if d < 15 then dpt c (d + 1) else none)
    else if x.1 = 1 then (if d < 15 ∧ x.2 < 9 then dpt c (d + 1) else none)
    else if 2 ≤ d ∧ x.1 ≤ 5 then dpt c (d - 1) else none
def okE (c : List Ins) : Prop := dpt c 0 = some 1
def okL (l : LawT) : Prop := (∀ b, b ∈ l.1 → okE b.1 ∧ okE b.2.1 ∧ okE b.2.2) ∧ okE l.2
def opv (k : Nat) (a b : Int32) : Int32 := if k = 2 then a + b else if k = 3 then a - b else if k = 4 then a * b else a / b
def ev (vs : Nat → Int32) : List Ins → List Int32 → Option (List Int32)
  | [], st => some st
  | x :: c, st => if x.1 = 0 then ev vs c (nI x.2 :: st)
    else if x.1 = 1 then ev vs c (vs x.2 :: st)
    else match st with
      | b :: a :: st => if x.1 = 5 ∧ b = 0 then none else ev vs c (opv x.1 a b :: st)
      | _ => none
def evE (vs : Nat → Int32) (c : List Ins) : Option Int32 := (ev vs c []).bind fun st => st.head?
def evB (vs : Nat → Int32) (las : List Ins) : List (List Ins × List Ins × List Ins) → Int32
  | [] => (evE vs las).getD 0
  | b :: r => match evE vs b.1, evE vs b.2.1 with
    | some u, some v => if u < v then (evE vs b.2.2).getD 0 else evB vs las r
    | _, _ => 0
def h99 (v : Int32) : Int32 := if v < 0 then 0 else if 99 < v then 99 else v
def lawV (T : Txt) (k : Nat) (vs : Nat → Int32) : Int32 := h99 (evB vs (T.la k).2 (T.la k).1)
def dfl (k : Nat) : LawT := ([], [if k = 0 then (1, 0) else if k = 1 then (1, 1) else if k = 2 then (0, 1) else (1, 5)])
/-! what a text must be -/
def clash (T : Txt) (g o : Nat) : Bool := !(g == o) && (T.fo g o || (decide (T.hr g < T.hr o + T.hs o) && decide (T.hr o < T.hr g + T.hs g)))
def clB (T : Txt) (g : Nat) : Nat := bs (clash T g) T.nG
def calm (T : Txt) (m : Nat) : Prop := ∀ g, g < T.nG → m.testBit g = true → m &&& clB T g = 0
abbrev okT (T : Txt) : Prop := (T.nS ≤ 4) ∧ (T.nG ≤ 7) ∧ (∀ s, s < T.nS → 1 ≤ T.lo s ∧ T.lo s ≤ 24 ∧ T.wo s ≤ 99) ∧ (∀ g, g < T.nG → T.hr g ≤ 23 ∧ 1 ≤ T.hs g ∧ T.hs g ≤ 12 ∧ T.fe g ≤ 99) ∧ (∀ g o, T.fo g o = T.fo o g) ∧ (∀ g, T.fo g g = false) ∧ (∀ g o, T.fo g o = true → g < T.nG) ∧ (1 ≤ T.de ∧ T.de ≤ 999) ∧ (T.se ≤ 9999) ∧ (∀ k, k < 4 → okL (T.la k)) ∧ (∀ k, k < 4 → T.tl k = false → T.la k = dfl k)
theorem okT.s4 {T : Txt} (h : okT T) : T.nS ≤ 4 := h.1
theorem okT.g7 {T : Txt} (h : okT T) : T.nG ≤ 7 := h.2.1
theorem okT.su {T : Txt} (h : okT T) : ∀ s, s < T.nS → 1 ≤ T.lo s ∧ T.lo s ≤ 24 ∧ T.wo s ≤ 99 := h.2.2.1
theorem okT.gu {T : Txt} (h : okT T) : ∀ g, g < T.nG → T.hr g ≤ 23 ∧ 1 ≤ T.hs g ∧ T.hs g ≤ 12 ∧ T.fe g ≤ 99 := h.2.2.2.1
theorem okT.fs {T : Txt} (h : okT T) : ∀ g o, T.fo g o = T.fo o g := h.2.2.2.2.1
theorem okT.fi {T : Txt} (h : okT T) : ∀ g, T.fo g g = false := h.2.2.2.2.2.1
theorem okT.fg {T : Txt} (h : okT T) : ∀ g o, T.fo g o = true → g < T.nG := h.2.2.2.2.2.2.1
theorem okT.de {T : Txt} (h : okT T) : 1 ≤ T.de ∧ T.de ≤ 999 := h.2.2.2.2.2.2.2.1
theorem okT.se {T : Txt} (h : okT T) : T.se ≤ 9999 := h.2.2.2.2.2.2.2.2.1
theorem okT.la {T : Txt} (h : okT T) : ∀ k, k < 4 → okL (T.la k) := h.2.2.2.2.2.2.2.2.2.1
theorem okT.df {T : Txt} (h : okT T) : ∀ k, k < 4 → T.tl k = false → T.la k = dfl k := h.2.2.2.2.2.2.2.2.2.2
abbrev okS (T : Txt) (S : St) : Prop := (∀ g, S.wh g = 9 ∨ (S.wh g < T.nS ∧ g < T.nG)) ∧ (∀ g o, S.wh g = S.wh o → S.wh g < 9 → clash T g o = false) ∧ (∀ g, S.re g ≤ 999) ∧ (∀ s, S.wn s ≤ 99) ∧ (∀ g, S.dd g = true → g < T.nG) ∧ (∀ s, S.sd s = true → s < T.nS)
theorem okS.wh {T : Txt} {S : St} (h : okS T S) : ∀ g, S.wh g = 9 ∨ (S.wh g < T.nS ∧ g < T.nG) := h.1
theorem okS.cl {T : Txt} {S : St} (h : okS T S) : ∀ g o, S.wh g = S.wh o → S.wh g < 9 → clash T g o = false := h.2.1
theorem okS.re {T : Txt} {S : St} (h : okS T S) : ∀ g, S.re g ≤ 999 := h.2.2.1
theorem okS.wn {T : Txt} {S : St} (h : okS T S) : ∀ s, S.wn s ≤ 99 := h.2.2.2.1
theorem okS.dd {T : Txt} {S : St} (h : okS T S) : ∀ g, S.dd g = true → g < T.nG := h.2.2.2.2.1
theorem okS.sd {T : Txt} {S : St} (h : okS T S) : ∀ s, S.sd s = true → s < T.nS := h.2.2.2.2.2
def inB (S : St) (s : Nat) : Nat := bs (fun g => S.wh g == s) 7
abbrev okA (A : Abs) : Prop := (okT A.T) ∧ (okS A.T A.S) ∧ (A.k ≤ 40) ∧ (∀ i, i < A.k → okS A.T (A.hi i)) ∧ (∀ i s, A.he i = some s → okS A.T s) ∧ (A.cl ≤ 20) ∧ (∀ i, i < A.cl → A.ch i < 24) ∧ (A.tn ≤ 2000) ∧ (∀ j, (A.tb j).toInt8.toInt32 = A.tb j) ∧ (A.lv ≤ 1)
theorem okA.T {A : Abs} (h : okA A) : okT A.T := h.1
theorem okA.S {A : Abs} (h : okA A) : okS A.T A.S := h.2.1
theorem okA.k {A : Abs} (h : okA A) : A.k ≤ 40 := h.2.2.1
theorem okA.hi {A : Abs} (h : okA A) : ∀ i, i < A.k → okS A.T (A.hi i) := h.2.2.2.1
theorem okA.he {A : Abs} (h : okA A) : ∀ i s, A.he i = some s → okS A.T s := h.2.2.2.2.1
theorem okA.cl {A : Abs} (h : okA A) : A.cl ≤ 20 := h.2.2.2.2.2.1
theorem okA.ch {A : Abs} (h : okA A) : ∀ i, i < A.cl → A.ch i < 24 := h.2.2.2.2.2.2.1
theorem okA.tn {A : Abs} (h : okA A) : A.tn ≤ 2000 := h.2.2.2.2.2.2.2.1
theorem okA.tb {A : Abs} (h : okA A) : ∀ j, (A.tb j).toInt8.toInt32 = A.tb j := h.2.2.2.2.2.2.2.2.1
theorem okA.lv {A : Abs} (h : okA A) : A.lv ≤ 1 := h.2.2.2.2.2.2.2.2.2
/-! the component's cells -/
abbrev cS (t : Nat) (S : St) (μ : Mem) : Prop := (μ.1 t 0 = S.wk) ∧ (μ.1 t 1 = S.mo) ∧ (μ.1 t 2 = nI (bs S.dd 7)) ∧ (μ.1 t 3 = nI (bs S.sd 4)) ∧ (∀ s, s < 4 → μ.1 (t + 1) s = nI (inB S s)) ∧ (∀ s, s < 4 → μ.1 (t + 2) s = nI (S.wn s)) ∧ (∀ g, g < 7 → μ.1 (t + 3) g = nI (S.re g))
theorem cS.wk {t : Nat} {S : St} {μ : Mem} (h : cS t S μ) : μ.1 t 0 = S.wk := h.1
theorem cS.mo {t : Nat} {S : St} {μ : Mem} (h : cS t S μ) : μ.1 t 1 = S.mo := h.2.1
theorem cS.dd {t : Nat} {S : St} {μ : Mem} (h : cS t S μ) : μ.1 t 2 = nI (bs S.dd 7) := h.2.2.1
theorem cS.sd {t : Nat} {S : St} {μ : Mem} (h : cS t S μ) : μ.1 t 3 = nI (bs S.sd 4) := h.2.2.2.1
theorem cS.wh {t : Nat} {S : St} {μ : Mem} (h : cS t S μ) : ∀ s, s < 4 → μ.1 (t + 1) s = nI (inB S s) := h.2.2.2.2.1
theorem cS.wn {t : Nat} {S : St} {μ : Mem} (h : cS t S μ) : ∀ s, s < 4 → μ.1 (t + 2) s = nI (S.wn s) := h.2.2.2.2.2.1
theorem cS.re {t : Nat} {S : St} {μ : Mem} (h : cS t S μ) : ∀ g, g < 7 → μ.1 (t + 3) g = nI (S.re g) := h.2.2.2.2.2.2
def stepC (k : Nat) : Nat := if k = 0 then 3 else if k = 1 then 13 else k + 4
def cCode (μ : Mem) (t : Nat) : Nat → List Ins → Prop
  | _, [] => True
  | p, x :: c => μ.1 (t + 1) p = nI (stepC x.1) ∧ (x.1 < 2 → μ.1 (t + 2) p = nI x.2) ∧ cCode μ t (p + 1) c
def cLaw (μ : Mem) (t : Nat) (las : List Ins) : Nat → List (List Ins × List Ins × List Ins) → Nat → Prop
  | p, [], e => cCode μ t p las ∧ μ.1 (t + 1) (p + las.length) = 0 ∧ p + las.length < e
  | p, b :: r, e => cCode μ t p (b.1 ++ b.2.1) ∧ μ.1 (t + 1) (p + (b.1 ++ b.2.1).length) = 10
      ∧ μ.1 (t + 2) (p + (b.1 ++ b.2.1).length) = nI (p + (b.1 ++ b.2.1).length + 1 + b.2.2.length + 1)
      ∧ cCode μ t (p + (b.1 ++ b.2.1).length + 1) b.2.2
      ∧ μ.1 (t + 1) (p + (b.1 ++ b.2.1).length + 1 + b.2.2.length) = 0
      ∧ cLaw μ t las (p + (b.1 ++ b.2.1).length + 1 + b.2.2.length + 1) r e
abbrev cT (t : Nat) (T : Txt) (μ : Mem) : Prop := (μ.1 t 0 = nI T.nS) ∧ (μ.1 t 3 = nI T.nG) ∧ (∀ s, s < T.nS → μ.1 (t + 1) s = nI (T.lo s)) ∧ (∀ s, s < T.nS → μ.1 (t + 2) s = nI (T.wo s)) ∧ (∀ g, g < T.nG → μ.1 (t + 3) g = nI (T.hr g)) ∧ (∀ g, g < T.nG → μ.1 (t + 4) g = nI (T.hs g)) ∧ (∀ g, g < T.nG → μ.1 (t + 5) g = nI (T.fe g)) ∧ (μ.1 t 8 = nI T.de) ∧ (μ.1 t 9 = nI T.se) ∧ (∀ g, g < T.nG → μ.1 (t + 10) g = nI (clB T g)) ∧ (∀ g, g < T.nG → μ.2 (t + 11) g = lN ((2 ^ T.hs g - 1) * 2 ^ T.hr g)) ∧ (∀ m, m < 2 ^ T.nG → (μ.1 (t + 12) m = 1 ∧ calm T m) ∨ (μ.1 (t + 12) m = 0 ∧ ¬ calm T m)) ∧ (∃ e, e ≤ 408 ∧ μ.1 (t + 6) 3 = nI e ∧ ∀ k, k < 4 → ∃ p, μ.1 (t + 9) k = nI p ∧ cLaw μ (t + 6) (T.la k).2 p (T.la k).1 e)
theorem cT.nS {t : Nat} {T : Txt} {μ : Mem} (h : cT t T μ) : μ.1 t 0 = nI T.nS := h.1
theorem cT.nG {t : Nat} {T : Txt} {μ : Mem} (h : cT t T μ) : μ.1 t 3 = nI T.nG := h.2.1
theorem cT.lo {t : Nat} {T : Txt} {μ : Mem} (h : cT t T μ) : ∀ s, s < T.nS → μ.1 (t + 1) s = nI (T.lo s) := h.2.2.1
theorem cT.wo {t : Nat} {T : Txt} {μ : Mem} (h : cT t T μ) : ∀ s, s < T.nS → μ.1 (t + 2) s = nI (T.wo s) := h.2.2.2.1
theorem cT.hr {t : Nat} {T : Txt} {μ : Mem} (h : cT t T μ) : ∀ g, g < T.nG → μ.1 (t + 3) g = nI (T.hr g) := h.2.2.2.2.1
theorem cT.hs {t : Nat} {T : Txt} {μ : Mem} (h : cT t T μ) : ∀ g, g < T.nG → μ.1 (t + 4) g = nI (T.hs g) := h.2.2.2.2.2.1
theorem cT.fe {t : Nat} {T : Txt} {μ : Mem} (h : cT t T μ) : ∀ g, g < T.nG → μ.1 (t + 5) g = nI (T.fe g) := h.2.2.2.2.2.2.1
theorem cT.de {t : Nat} {T : Txt} {μ : Mem} (h : cT t T μ) : μ.1 t 8 = nI T.de := h.2.2.2.2.2.2.2.1
theorem cT.se {t : Nat} {T : Txt} {μ : Mem} (h : cT t T μ) : μ.1 t 9 = nI T.se := h.2.2.2.2.2.2.2.2.1
theorem cT.cl {t : Nat} {T : Txt} {μ : Mem} (h : cT t T μ) : ∀ g, g < T.nG → μ.1 (t + 10) g = nI (clB T g) := h.2.2.2.2.2.2.2.2.2.1
theorem cT.sp {t : Nat} {T : Txt} {μ : Mem} (h : cT t T μ) : ∀ g, g < T.nG → μ.2 (t + 11) g = lN ((2 ^ T.hs g - 1) * 2 ^ T.hr g) := h.2.2.2.2.2.2.2.2.2.2.1
theorem cT.pc {t : Nat} {T : Txt} {μ : Mem} (h : cT t T μ) : ∀ m, m < 2 ^ T.nG → (μ.1 (t + 12) m = 1 ∧ calm T m) ∨ (μ.1 (t + 12) m = 0 ∧ ¬ calm T m) := h.2.2.2.2.2.2.2.2.2.2.2.1
theorem cT.la {t : Nat} {T : Txt} {μ : Mem} (h : cT t T μ) : ∃ e, e ≤ 408 ∧ μ.1 (t + 6) 3 = nI e ∧ ∀ k, k < 4 → ∃ p, μ.1 (t + 9) k = nI p ∧ cLaw μ (t + 6) (T.la k).2 p (T.la k).1 e := h.2.2.2.2.2.2.2.2.2.2.2.2
def wordL : List (List Nat) := [[19, 21, 14, 4, 1, 25], [7, 21, 5, 19, 20], [6, 15, 5, 19], [16, 1, 25, 19], [18, 5, 19, 20, 19], [23, 5, 1, 18, 19], [19, 5, 12, 12, 19], [4, 5, 1, 20, 8], [19, 5, 5, 4], [9, 6], [20, 8, 5, 14], [5, 12, 19, 5], [6, 5, 5], [8, 15, 21, 18, 19], [8, 15, 21, 18], [18, 5, 19, 20, 5, 4], [23, 15, 18, 14], [23, 15, 18, 20, 8], [23, 5, 5, 11], [23, 8, 9, 3, 8], [15, 20, 8, 5, 18, 19]]
def pkw (b : Nat) (l : List Nat) : Nat := l.foldl (fun a c => a * b + c) 0
abbrev CInv (A : Abs) (μ : Mem) : Prop := (μ.1 1 1 = nI A.tn) ∧ (∀ j, j < A.tn → μ.1 2 j = A.tb j) ∧ (μ.1 3 1 = A.pl) ∧ (cT 199 A.T μ) ∧ (cS 9 A.S μ) ∧ (μ.1 17 0 = nI A.k) ∧ (∃ p, p < 40 ∧ μ.1 17 2 = nI p ∧ ∀ i, i < A.k → cS (19 + 4 * ((p + 40 - A.k + i) % 40)) (A.hi i) μ) ∧ (μ.1 0 11 = nI (bs (fun i => (A.he i).isSome) 3)) ∧ (∀ i s, i < 3 → A.he i = some s → cS (231 + 4 * i) s μ) ∧ (μ.1 196 0 = nI A.cl) ∧ (∀ i, i < A.cl → μ.1 197 i = nI (A.ch i)) ∧ (∀ i, i < A.cl → μ.1 198 i = b2i (A.ct i)) ∧ (∀ w, w < 21 → μ.2 8 w = lN (pkw 32 (wordL.getD w [])))
theorem CInv.tn {A : Abs} {μ : Mem} (h : CInv A μ) : μ.1 1 1 = nI A.tn := h.1
theorem CInv.tb {A : Abs} {μ : Mem} (h : CInv A μ) : ∀ j, j < A.tn → μ.1 2 j = A.tb j := h.2.1
theorem CInv.pl {A : Abs} {μ : Mem} (h : CInv A μ) : μ.1 3 1 = A.pl := h.2.2.1
theorem CInv.T {A : Abs} {μ : Mem} (h : CInv A μ) : cT 199 A.T μ := h.2.2.2.1
theorem CInv.S {A : Abs} {μ : Mem} (h : CInv A μ) : cS 9 A.S μ := h.2.2.2.2.1
theorem CInv.hn {A : Abs} {μ : Mem} (h : CInv A μ) : μ.1 17 0 = nI A.k := h.2.2.2.2.2.1
theorem CInv.hi {A : Abs} {μ : Mem} (h : CInv A μ) : ∃ p, p < 40 ∧ μ.1 17 2 = nI p ∧ ∀ i, i < A.k → cS (19 + 4 * ((p + 40 - A.k + i) % 40)) (A.hi i) μ := h.2.2.2.2.2.2.1
theorem CInv.hh {A : Abs} {μ : Mem} (h : CInv A μ) : μ.1 0 11 = nI (bs (fun i => (A.he i).isSome) 3) := h.2.2.2.2.2.2.2.1
theorem CInv.he {A : Abs} {μ : Mem} (h : CInv A μ) : ∀ i s, i < 3 → A.he i = some s → cS (231 + 4 * i) s μ := h.2.2.2.2.2.2.2.2.1
theorem CInv.cn {A : Abs} {μ : Mem} (h : CInv A μ) : μ.1 196 0 = nI A.cl := h.2.2.2.2.2.2.2.2.2.1
theorem CInv.ch {A : Abs} {μ : Mem} (h : CInv A μ) : ∀ i, i < A.cl → μ.1 197 i = nI (A.ch i) := h.2.2.2.2.2.2.2.2.2.2.1
theorem CInv.ct {A : Abs} {μ : Mem} (h : CInv A μ) : ∀ i, i < A.cl → μ.1 198 i = b2i (A.ct i) := h.2.2.2.2.2.2.2.2.2.2.2.1
theorem CInv.ws {A : Abs} {μ : Mem} (h : CInv A μ) : ∀ w, w < 21 → μ.2 8 w = lN (pkw 32 (wordL.getD w [])) := h.2.2.2.2.2.2.2.2.2.2.2.2
/-! the reference's cells -/
def whI (n : Nat) : Int32 := if n < 9 then nI n else -2
abbrev rS (a f : Nat) (S : St) (μ : Mem) : Prop := (∀ g, g < 7 → μ.1 a (f + g) = whI (S.wh g)) ∧ (∀ g, g < 7 → μ.1 a (f + (7 + g)) = nI (S.re g)) ∧ (∀ g, g < 7 → μ.1 a (f + (14 + g)) = b2i (S.dd g)) ∧ (∀ s, s < 4 → μ.1 a (f + (21 + s)) = nI (S.wn s)) ∧ (∀ s, s < 4 → μ.1 a (f + (25 + s)) = b2i (S.sd s)) ∧ (μ.1 a (f + 29) = S.wk) ∧ (μ.1 a (f + 30) = S.mo)
theorem rS.wh {a f : Nat} {S : St} {μ : Mem} (h : rS a f S μ) : ∀ g, g < 7 → μ.1 a (f + g) = whI (S.wh g) := h.1
theorem rS.re {a f : Nat} {S : St} {μ : Mem} (h : rS a f S μ) : ∀ g, g < 7 → μ.1 a (f + (7 + g)) = nI (S.re g) := h.2.1
theorem rS.dd {a f : Nat} {S : St} {μ : Mem} (h : rS a f S μ) : ∀ g, g < 7 → μ.1 a (f + (14 + g)) = b2i (S.dd g) := h.2.2.1
theorem rS.wn {a f : Nat} {S : St} {μ : Mem} (h : rS a f S μ) : ∀ s, s < 4 → μ.1 a (f + (21 + s)) = nI (S.wn s) := h.2.2.2.1
theorem rS.sd {a f : Nat} {S : St} {μ : Mem} (h : rS a f S μ) : ∀ s, s < 4 → μ.1 a (f + (25 + s)) = b2i (S.sd s) := h.2.2.2.2.1
theorem rS.wk {a f : Nat} {S : St} {μ : Mem} (h : rS a f S μ) : μ.1 a (f + 29) = S.wk := h.2.2.2.2.2.1
theorem rS.mo {a f : Nat} {S : St} {μ : Mem} (h : rS a f S μ) : μ.1 a (f + 30) = S.mo := h.2.2.2.2.2.2
def rCode (μ : Mem) : Nat → List Ins → Prop
  | _, [] => True
  | p, x :: c => μ.1 271 p = nI x.1 ∧ (x.1 < 2 → μ.1 272 p = nI x.2) ∧ rCode μ (p + 1) c
def rLaw (μ : Mem) (las : List Ins) : Nat → Nat → List (List Ins × List Ins × List Ins) → Nat → Prop
  | b, p, [], e => μ.1 266 b = 0 ∧ μ.1 269 b = nI p ∧ μ.1 270 b = nI (p + las.length) ∧ rCode μ p las ∧ b + 1 = e ∧ b < 260 ∧ p + las.length ≤ 840
  | b, p, c :: r, e => μ.1 266 b = 1 ∧ μ.1 267 b = nI p ∧ rCode μ p c.1 ∧ μ.1 268 b = nI (p + c.1.length)
      ∧ rCode μ (p + c.1.length) c.2.1 ∧ μ.1 269 b = nI (p + c.1.length + c.2.1.length)
      ∧ rCode μ (p + c.1.length + c.2.1.length) c.2.2 ∧ μ.1 270 b = nI (p + c.1.length + c.2.1.length + c.2.2.length)
      ∧ rLaw μ las (b + 1) (p + c.1.length + c.2.1.length + c.2.2.length) r e
def tln (l : LawT) : Nat := (l.1.map fun c => c.1.length + c.2.1.length + c.2.2.length).sum + l.2.length
abbrev rT (v : Nat) (T : Txt) (μ : Mem) : Prop := (μ.1 253 v = nI T.nS) ∧ (μ.1 256 v = nI T.nG) ∧ (∀ s, s < T.nS → μ.1 254 (4 * v + s) = nI (T.lo s)) ∧ (∀ s, s < T.nS → μ.1 255 (4 * v + s) = nI (T.wo s)) ∧ (∀ g, g < T.nG → μ.1 257 (7 * v + g) = nI (T.hr g)) ∧ (∀ g, g < T.nG → μ.1 258 (7 * v + g) = nI (T.hs g)) ∧ (∀ g, g < T.nG → μ.1 259 (7 * v + g) = nI (T.fe g)) ∧ (∀ g, g < T.nG → μ.1 260 (7 * v + g) = nI (bs (T.fo g) T.nG)) ∧ (μ.1 262 v = nI T.de) ∧ (μ.1 263 v = nI T.se) ∧ (∀ k, k < 4 → ∃ b e, μ.1 264 (4 * v + k) = nI b ∧ μ.1 265 (4 * v + k) = nI e ∧ ((T.tl k = false ∧ b = e ∧ e ≤ 260) ∨ (T.tl k = true ∧ ∃ p, rLaw μ (T.la k).2 b p (T.la k).1 e ∧ 420 * v ≤ p ∧ p + tln (T.la k) ≤ 420 * v + 420 ∧ 130 * v ≤ b ∧ e ≤ 130 * v + 130)))
theorem rT.nS {v : Nat} {T : Txt} {μ : Mem} (h : rT v T μ) : μ.1 253 v = nI T.nS := h.1
theorem rT.nG {v : Nat} {T : Txt} {μ : Mem} (h : rT v T μ) : μ.1 256 v = nI T.nG := h.2.1
theorem rT.lo {v : Nat} {T : Txt} {μ : Mem} (h : rT v T μ) : ∀ s, s < T.nS → μ.1 254 (4 * v + s) = nI (T.lo s) := h.2.2.1
theorem rT.wo {v : Nat} {T : Txt} {μ : Mem} (h : rT v T μ) : ∀ s, s < T.nS → μ.1 255 (4 * v + s) = nI (T.wo s) := h.2.2.2.1
theorem rT.hr {v : Nat} {T : Txt} {μ : Mem} (h : rT v T μ) : ∀ g, g < T.nG → μ.1 257 (7 * v + g) = nI (T.hr g) := h.2.2.2.2.1
theorem rT.hs {v : Nat} {T : Txt} {μ : Mem} (h : rT v T μ) : ∀ g, g < T.nG → μ.1 258 (7 * v + g) = nI (T.hs g) := h.2.2.2.2.2.1
theorem rT.fe {v : Nat} {T : Txt} {μ : Mem} (h : rT v T μ) : ∀ g, g < T.nG → μ.1 259 (7 * v + g) = nI (T.fe g) := h.2.2.2.2.2.2.1
theorem rT.fo {v : Nat} {T : Txt} {μ : Mem} (h : rT v T μ) : ∀ g, g < T.nG → μ.1 260 (7 * v + g) = nI (bs (T.fo g) T.nG) := h.2.2.2.2.2.2.2.1
theorem rT.de {v : Nat} {T : Txt} {μ : Mem} (h : rT v T μ) : μ.1 262 v = nI T.de := h.2.2.2.2.2.2.2.2.1
theorem rT.se {v : Nat} {T : Txt} {μ : Mem} (h : rT v T μ) : μ.1 263 v = nI T.se := h.2.2.2.2.2.2.2.2.2.1
theorem rT.la {v : Nat} {T : Txt} {μ : Mem} (h : rT v T μ) : ∀ k, k < 4 → ∃ b e, μ.1 264 (4 * v + k) = nI b ∧ μ.1 265 (4 * v + k) = nI e ∧ ((T.tl k = false ∧ b = e ∧ e ≤ 260) ∨ (T.tl k = true ∧ ∃ p, rLaw μ (T.la k).2 b p (T.la k).1 e ∧ 420 * v ≤ p ∧ p + tln (T.la k) ≤ 420 * v + 420 ∧ 130 * v ≤ b ∧ e ≤ 130 * v + 130)) := h.2.2.2.2.2.2.2.2.2.2
abbrev RInv (A : Abs) (μ : Mem) : Prop := (μ.1 243 2 = nI A.tn) ∧ (∀ j, j < A.tn → μ.1 244 j = A.tb j) ∧ (μ.1 243 17 = A.pl) ∧ (μ.1 243 18 = nI A.lv) ∧ (rT A.lv A.T μ) ∧ (rS 276 0 A.S μ) ∧ (μ.1 243 56 = nI A.k) ∧ (∀ i, i < A.k → rS 280 (31 * i) (A.hi i) μ) ∧ (∀ i, i < 3 → μ.1 287 i = b2i (A.he i).isSome) ∧ (∀ i s, i < 3 → A.he i = some s → rS 288 (31 * i) s μ) ∧ (μ.1 243 62 = nI A.cl) ∧ (∀ i, i < A.cl → μ.1 285 i = nI (A.ch i)) ∧ (∀ i, i < A.cl → μ.1 286 i = b2i (A.ct i)) ∧ (∀ w, w < 21 → μ.2 250 w = lN (pkw 27 (wordL.getD w [])))
theorem RInv.tn {A : Abs} {μ : Mem} (h : RInv A μ) : μ.1 243 2 = nI A.tn := h.1
theorem RInv.tb {A : Abs} {μ : Mem} (h : RInv A μ) : ∀ j, j < A.tn → μ.1 244 j = A.tb j := h.2.1
theorem RInv.pl {A : Abs} {μ : Mem} (h : RInv A μ) : μ.1 243 17 = A.pl := h.2.2.1
theorem RInv.lv {A : Abs} {μ : Mem} (h : RInv A μ) : μ.1 243 18 = nI A.lv := h.2.2.2.1
theorem RInv.T {A : Abs} {μ : Mem} (h : RInv A μ) : rT A.lv A.T μ := h.2.2.2.2.1
theorem RInv.S {A : Abs} {μ : Mem} (h : RInv A μ) : rS 276 0 A.S μ := h.2.2.2.2.2.1
theorem RInv.hn {A : Abs} {μ : Mem} (h : RInv A μ) : μ.1 243 56 = nI A.k := h.2.2.2.2.2.2.1
theorem RInv.hi {A : Abs} {μ : Mem} (h : RInv A μ) : ∀ i, i < A.k → rS 280 (31 * i) (A.hi i) μ := h.2.2.2.2.2.2.2.1
theorem RInv.hh {A : Abs} {μ : Mem} (h : RInv A μ) : ∀ i, i < 3 → μ.1 287 i = b2i (A.he i).isSome := h.2.2.2.2.2.2.2.2.1
theorem RInv.he {A : Abs} {μ : Mem} (h : RInv A μ) : ∀ i s, i < 3 → A.he i = some s → rS 288 (31 * i) s μ := h.2.2.2.2.2.2.2.2.2.1
theorem RInv.cn {A : Abs} {μ : Mem} (h : RInv A μ) : μ.1 243 62 = nI A.cl := h.2.2.2.2.2.2.2.2.2.2.1
theorem RInv.ch {A : Abs} {μ : Mem} (h : RInv A μ) : ∀ i, i < A.cl → μ.1 285 i = nI (A.ch i) := h.2.2.2.2.2.2.2.2.2.2.2.1
theorem RInv.ct {A : Abs} {μ : Mem} (h : RInv A μ) : ∀ i, i < A.cl → μ.1 286 i = b2i (A.ct i) := h.2.2.2.2.2.2.2.2.2.2.2.2.1
theorem RInv.ws {A : Abs} {μ : Mem} (h : RInv A μ) : ∀ w, w < 21 → μ.2 250 w = lN (pkw 27 (wordL.getD w [])) := h.2.2.2.2.2.2.2.2.2.2.2.2.2
def Inv (μ : Mem) : Prop := ∃ A : Abs, okA A ∧ CInv A μ ∧ RInv A μ
