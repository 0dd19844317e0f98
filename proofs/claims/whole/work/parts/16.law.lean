abbrev mL : MR := (yL_law, cL_law, 4, some .boolean)
abbrev LL (j : Nat) : List (Nat × Value) := [(0, .ref 1000), (1, .ref 0), (2, .ref 243), (3, .int (nI j))]
abbrev QL : Option Value → PS → Prop := fun r _ => r = some (.int 1)
def st_feed (Inv : Mem → Prop) : Prop := ∀ (μ : Mem) (a1 : Int32) (a2 : Int32) (a3 : Int32) (a4 : Int32) (a5 : Int32), Inv μ → ∃ (r : Int32) (μ1 : Mem) (μ2 : Mem), (fX10_feed a1 a2 a3 a4 a5 μ) = some (r, μ1) ∧ (fX11_feed a1 a2 a3 a4 a5 μ1) = some (r, μ2) ∧ Inv μ2
set_option maxRecDepth 100000 in
theorem lc_feed {Inv : Mem → Prop} (hst : st_feed Inv) {Ls j : Nat} {xs : Nat → Int32} (hi : ∀ c : Nat, c < 6 → inb (nI j + nI c) Ls) {μ : Mem} (hI : Inv μ) (hcont : ∀ μ2, Inv μ2 → RX (PX Ls xs) mL 1000 0 NF 1368 (LL j) [] (μ2, Rf0, NF) QL) : RX (PX Ls xs) mL 1000 0 NF 216 (LL j) [] (μ, Rf0, NF) QL := by
  refine rx_aload_n 216 dL_law_216 1 rfl ?_
  refine rx_aload_n 217 dL_law_217 0 rfl ?_
  refine rx_iload_n 218 dL_law_218 3 rfl ?_
  refine rx_iconst 219 (v := 1) dL_law_219 (by decide) ?_
  refine rx_iadd 220 dL_law_220 ?_
  refine rx_sld 221 dL_law_221 (hi 1 (by decide)) ?_
  refine rx_aload_n 222 dL_law_222 0 rfl ?_
  refine rx_iload_n 223 dL_law_223 3 rfl ?_
  refine rx_iconst 224 (v := 2) dL_law_224 (by decide) ?_
  refine rx_iadd 225 dL_law_225 ?_
  refine rx_sld 226 dL_law_226 (hi 2 (by decide)) ?_
  refine rx_aload_n 227 dL_law_227 0 rfl ?_
  refine rx_iload_n 228 dL_law_228 3 rfl ?_
  refine rx_iconst 229 (v := 3) dL_law_229 (by decide) ?_
  refine rx_iadd 230 dL_law_230 ?_
  refine rx_sld 231 dL_law_231 (hi 3 (by decide)) ?_
  refine rx_aload_n 232 dL_law_232 0 rfl ?_
  refine rx_iload_n 233 dL_law_233 3 rfl ?_
  refine rx_iconst 234 (v := 4) dL_law_234 (by decide) ?_
  refine rx_iadd 235 dL_law_235 ?_
  refine rx_sld 236 dL_law_236 (hi 4 (by decide)) ?_
  refine rx_aload_n 237 dL_law_237 0 rfl ?_
  refine rx_iload_n 238 dL_law_238 3 rfl ?_
  refine rx_iconst 239 (v := 5) dL_law_239 (by decide) ?_
  refine rx_iadd 240 dL_law_240 ?_
  refine rx_sld 241 dL_law_241 (hi 5 (by decide)) ?_
  obtain ⟨r, μ1, μ2, h1, h2, hI⟩ := hst μ (xs ((nI j) + 1).toNatClampNeg) (xs ((nI j) + 2).toNatClampNeg) (xs ((nI j) + 3).toNatClampNeg) (xs ((nI j) + 4).toNatClampNeg) (xs ((nI j) + 5).toNatClampNeg) hI
  refine rx_callV 242 10 [.int (xs ((nI j) + 1).toNatClampNeg), .int (xs ((nI j) + 2).toNatClampNeg), .int (xs ((nI j) + 3).toNatClampNeg), .int (xs ((nI j) + 4).toNatClampNeg), .int (xs ((nI j) + 5).toNatClampNeg)] dL_law_242 caX10_feed lL_13 inX10_feed slX10_feed rfl ly_0 ⟨_, rfl, rfl⟩ rln_0 naX10_feed (Nat.le_of_ble_eq_true rfl) (Nat.le_of_ble_eq_true rfl) (by decide) (Nat.le_refl _) (Nat.le_refl _) (wX10_feed (xs ((nI j) + 1).toNatClampNeg) (xs ((nI j) + 2).toNatClampNeg) (xs ((nI j) + 3).toNatClampNeg) (xs ((nI j) + 4).toNatClampNeg) (xs ((nI j) + 5).toNatClampNeg) μ h1) ?_
  intro r9 σ9 h9 _
  obtain ⟨rfl, rfl⟩ := h9
  refine rx_aload_n 245 dL_law_245 2 rfl ?_
  refine rx_aload_n 246 dL_law_246 0 rfl ?_
  refine rx_iload_n 247 dL_law_247 3 rfl ?_
  refine rx_iconst 248 (v := 1) dL_law_248 (by decide) ?_
  refine rx_iadd 249 dL_law_249 ?_
  refine rx_sld 250 dL_law_250 (hi 1 (by decide)) ?_
  refine rx_aload_n 251 dL_law_251 0 rfl ?_
  refine rx_iload_n 252 dL_law_252 3 rfl ?_
  refine rx_iconst 253 (v := 2) dL_law_253 (by decide) ?_
  refine rx_iadd 254 dL_law_254 ?_
  refine rx_sld 255 dL_law_255 (hi 2 (by decide)) ?_
  refine rx_aload_n 256 dL_law_256 0 rfl ?_
  refine rx_iload_n 257 dL_law_257 3 rfl ?_
  refine rx_iconst 258 (v := 3) dL_law_258 (by decide) ?_
  refine rx_iadd 259 dL_law_259 ?_
  refine rx_sld 260 dL_law_260 (hi 3 (by decide)) ?_
  refine rx_aload_n 261 dL_law_261 0 rfl ?_
  refine rx_iload_n 262 dL_law_262 3 rfl ?_
  refine rx_iconst 263 (v := 4) dL_law_263 (by decide) ?_
  refine rx_iadd 264 dL_law_264 ?_
  refine rx_sld 265 dL_law_265 (hi 4 (by decide)) ?_
  refine rx_aload_n 266 dL_law_266 0 rfl ?_
  refine rx_iload_n 267 dL_law_267 3 rfl ?_
  refine rx_iconst 268 (v := 5) dL_law_268 (by decide) ?_
  refine rx_iadd 269 dL_law_269 ?_
  refine rx_sld 270 dL_law_270 (hi 5 (by decide)) ?_
  refine rx_callV 271 11 [.int (xs ((nI j) + 1).toNatClampNeg), .int (xs ((nI j) + 2).toNatClampNeg), .int (xs ((nI j) + 3).toNatClampNeg), .int (xs ((nI j) + 4).toNatClampNeg), .int (xs ((nI j) + 5).toNatClampNeg)] dL_law_271 caX11_feed lL_17 inX11_feed slX11_feed rfl ly_243 ⟨_, rfl, rfl⟩ rln_243 naX11_feed (Nat.le_of_ble_eq_true rfl) (Nat.le_of_ble_eq_true rfl) (by decide) (Nat.le_refl _) (Nat.le_refl _) (wX11_feed (xs ((nI j) + 1).toNatClampNeg) (xs ((nI j) + 2).toNatClampNeg) (xs ((nI j) + 3).toNatClampNeg) (xs ((nI j) + 4).toNatClampNeg) (xs ((nI j) + 5).toNatClampNeg) μ1 h2) ?_
  intro r9 σ9 h9 _
  obtain ⟨rfl, rfl⟩ := h9
  refine rx_icmp_eq 274 1368 dL_law_274 (by decide) (fun _ => ?_) (fun c3 => absurd rfl c3)
  exact hcont _ hI
def st_back (Inv : Mem → Prop) : Prop := ∀ (μ : Mem) (a1 : Int32), Inv μ → ∃ (r : Int32) (μ1 : Mem) (μ2 : Mem), (fX10_back a1 μ) = some (r, μ1) ∧ (fX11_back a1 μ1) = some (r, μ2) ∧ Inv μ2
set_option maxRecDepth 100000 in
theorem lc_back {Inv : Mem → Prop} (hst : st_back Inv) {Ls j : Nat} {xs : Nat → Int32} (hi : ∀ c : Nat, c < 6 → inb (nI j + nI c) Ls) {μ : Mem} (hI : Inv μ) (hcont : ∀ μ2, Inv μ2 → RX (PX Ls xs) mL 1000 0 NF 1368 (LL j) [] (μ2, Rf0, NF) QL) : RX (PX Ls xs) mL 1000 0 NF 279 (LL j) [] (μ, Rf0, NF) QL := by
  refine rx_aload_n 279 dL_law_279 1 rfl ?_
  refine rx_aload_n 280 dL_law_280 0 rfl ?_
  refine rx_iload_n 281 dL_law_281 3 rfl ?_
  refine rx_iconst 282 (v := 1) dL_law_282 (by decide) ?_
  refine rx_iadd 283 dL_law_283 ?_
  refine rx_sld 284 dL_law_284 (hi 1 (by decide)) ?_
  obtain ⟨r, μ1, μ2, h1, h2, hI⟩ := hst μ (xs ((nI j) + 1).toNatClampNeg) hI
  refine rx_callV 285 10 [.int (xs ((nI j) + 1).toNatClampNeg)] dL_law_285 caX10_back lL_18 inX10_back slX10_back rfl ly_0 ⟨_, rfl, rfl⟩ rln_0 naX10_back (Nat.le_of_ble_eq_true rfl) (Nat.le_of_ble_eq_true rfl) (by decide) (Nat.le_refl _) (Nat.le_refl _) (wX10_back (xs ((nI j) + 1).toNatClampNeg) μ h1) ?_
  intro r9 σ9 h9 _
  obtain ⟨rfl, rfl⟩ := h9
  refine rx_aload_n 288 dL_law_288 2 rfl ?_
  refine rx_aload_n 289 dL_law_289 0 rfl ?_
  refine rx_iload_n 290 dL_law_290 3 rfl ?_
  refine rx_iconst 291 (v := 1) dL_law_291 (by decide) ?_
  refine rx_iadd 292 dL_law_292 ?_
  refine rx_sld 293 dL_law_293 (hi 1 (by decide)) ?_
  refine rx_callV 294 11 [.int (xs ((nI j) + 1).toNatClampNeg)] dL_law_294 caX11_back lL_22 inX11_back slX11_back rfl ly_243 ⟨_, rfl, rfl⟩ rln_243 naX11_back (Nat.le_of_ble_eq_true rfl) (Nat.le_of_ble_eq_true rfl) (by decide) (Nat.le_refl _) (Nat.le_refl _) (wX11_back (xs ((nI j) + 1).toNatClampNeg) μ1 h2) ?_
  intro r9 σ9 h9 _
  obtain ⟨rfl, rfl⟩ := h9
  refine rx_icmp_eq 297 1368 dL_law_297 (by decide) (fun _ => ?_) (fun c3 => absurd rfl c3)
  exact hcont _ hI
def st_read (Inv : Mem → Prop) : Prop := ∀ (μ : Mem) , Inv μ → ∃ (r : Int32) (μ1 : Mem) (sb : Bool) (μ2 : Mem), fX10_read μ = some (r, μ1, sb) ∧ fX11_read (if sb = true then swM μ1 else μ1) = some (r, μ2) ∧ Inv μ2
set_option maxRecDepth 100000 in
theorem lc_read {Inv : Mem → Prop} (hst : st_read Inv) {Ls j : Nat} {xs : Nat → Int32} (hi : ∀ c : Nat, c < 6 → inb (nI j + nI c) Ls) {μ : Mem} (hI : Inv μ) (hcont : ∀ μ2, Inv μ2 → RX (PX Ls xs) mL 1000 0 NF 1368 (LL j) [] (μ2, Rf0, NF) QL) : RX (PX Ls xs) mL 1000 0 NF 302 (LL j) [] (μ, Rf0, NF) QL := by
  refine rx_aload_n 302 dL_law_302 1 rfl ?_
  obtain ⟨r, μ1, sb, μ2, h1, h2, hI⟩ := hst μ  hI
  refine rx_callV 303 10 [] dL_law_303 caX10_read lL_23 inX10_read slX10_read rfl ly_0 ⟨_, rfl, rfl⟩ rln_0 naX10_read (Nat.le_of_ble_eq_true rfl) (Nat.le_of_ble_eq_true rfl) (by decide) (Nat.le_refl _) (Nat.le_refl _) (wX10_read μ h1) ?_
  intro r9 σ9 h9 _
  obtain ⟨rfl, rfl⟩ := h9
  cases sb with
  | false =>
    refine rx_aload_n 306 dL_law_306 2 rfl ?_
    refine rx_callV 307 11 [] dL_law_307 caX11_read lL_27 inX11_read slX11_read rfl ly_243 ⟨_, rfl, rfl⟩ rln_243 naX11_read (Nat.le_of_ble_eq_true rfl) (Nat.le_of_ble_eq_true rfl) (by decide) (Nat.le_refl _) (Nat.le_refl _) (wX11_read μ1 h2) ?_
    intro r9 σ9 h9 _
    obtain ⟨rfl, rfl⟩ := h9
    refine rx_icmp_eq 310 1368 dL_law_310 (by decide) (fun _ => ?_) (fun c3 => absurd rfl c3)
    exact hcont _ hI
  | true =>
    refine rx_swap 306 (by intro q hq; simp only [List.mem_cons, List.mem_nil_iff, or_false] at hq; rcases hq with rfl | rfl | rfl | rfl <;> first | trivial | decide) (by intro v hv; rcases List.mem_cons.mp hv with rfl | hv; trivial; cases hv) ?_
    refine rx_aload_n 306 dL_law_306 2 rfl ?_
    refine rx_callV 307 11 [] dL_law_307 caX11_read lL_27 inX11_read slX11_read rfl ly_243 ⟨_, rfl, rfl⟩ rln_243 naX11_read (Nat.le_of_ble_eq_true rfl) (Nat.le_of_ble_eq_true rfl) (by decide) (Nat.le_refl _) (Nat.le_refl _) (wX11_read (swM μ1) h2) ?_
    intro r9 σ9 h9 _
    obtain ⟨rfl, rfl⟩ := h9
    refine rx_icmp_eq 310 1368 dL_law_310 (by decide) (fun _ => ?_) (fun c3 => absurd rfl c3)
    exact hcont _ hI
def st_place (Inv : Mem → Prop) : Prop := ∀ (μ : Mem) , Inv μ → ∃ (r : Int32), (fX10_place μ) = some r ∧ (fX11_place μ) = some r
set_option maxRecDepth 100000 in
theorem lc_place {Inv : Mem → Prop} (hst : st_place Inv) {Ls j : Nat} {xs : Nat → Int32} (hi : ∀ c : Nat, c < 6 → inb (nI j + nI c) Ls) {μ : Mem} (hI : Inv μ) (hcont : ∀ μ2, Inv μ2 → RX (PX Ls xs) mL 1000 0 NF 1368 (LL j) [] (μ2, Rf0, NF) QL) : RX (PX Ls xs) mL 1000 0 NF 315 (LL j) [] (μ, Rf0, NF) QL := by
  refine rx_aload_n 315 dL_law_315 1 rfl ?_
  obtain ⟨r, h1, h2⟩ := hst μ  hI
  refine rx_callV 316 10 [] dL_law_316 caX10_place lL_28 inX10_place slX10_place rfl ly_0 ⟨_, rfl, rfl⟩ rln_0 naX10_place (Nat.le_of_ble_eq_true rfl) (Nat.le_of_ble_eq_true rfl) (by decide) (Nat.le_refl _) (Nat.le_refl _) (wX10_place μ h1) ?_
  intro r9 σ9 h9 _
  obtain ⟨rfl, rfl⟩ := h9
  refine rx_aload_n 319 dL_law_319 2 rfl ?_
  refine rx_callV 320 11 [] dL_law_320 caX11_place lL_31 inX11_place slX11_place rfl ly_243 ⟨_, rfl, rfl⟩ rln_243 naX11_place (Nat.le_of_ble_eq_true rfl) (Nat.le_of_ble_eq_true rfl) (by decide) (Nat.le_refl _) (Nat.le_refl _) (wX11_place μ h2) ?_
  intro r9 σ9 h9 _
  obtain ⟨rfl, rfl⟩ := h9
  refine rx_icmp_eq 323 1368 dL_law_323 (by decide) (fun _ => ?_) (fun c3 => absurd rfl c3)
  exact hcont _ hI
def st_sunday (Inv : Mem → Prop) : Prop := ∀ (μ : Mem) (a1 : Int32) (a2 : Int32), Inv μ → ∃ (r : Int32) (μ1 : Mem) (μ2 : Mem), (fX10_sunday a1 a2 μ) = some (r, μ1) ∧ (fX11_sunday a1 a2 μ1) = some (r, μ2) ∧ Inv μ2
set_option maxRecDepth 100000 in
theorem lc_sunday {Inv : Mem → Prop} (hst : st_sunday Inv) {Ls j : Nat} {xs : Nat → Int32} (hi : ∀ c : Nat, c < 6 → inb (nI j + nI c) Ls) {μ : Mem} (hI : Inv μ) (hcont : ∀ μ2, Inv μ2 → RX (PX Ls xs) mL 1000 0 NF 1368 (LL j) [] (μ2, Rf0, NF) QL) : RX (PX Ls xs) mL 1000 0 NF 328 (LL j) [] (μ, Rf0, NF) QL := by
  refine rx_aload_n 328 dL_law_328 1 rfl ?_
  refine rx_aload_n 329 dL_law_329 0 rfl ?_
  refine rx_iload_n 330 dL_law_330 3 rfl ?_
  refine rx_iconst 331 (v := 1) dL_law_331 (by decide) ?_
  refine rx_iadd 332 dL_law_332 ?_
  refine rx_sld 333 dL_law_333 (hi 1 (by decide)) ?_
  refine rx_aload_n 334 dL_law_334 0 rfl ?_
  refine rx_iload_n 335 dL_law_335 3 rfl ?_
  refine rx_iconst 336 (v := 2) dL_law_336 (by decide) ?_
  refine rx_iadd 337 dL_law_337 ?_
  refine rx_sld 338 dL_law_338 (hi 2 (by decide)) ?_
  obtain ⟨r, μ1, μ2, h1, h2, hI⟩ := hst μ (xs ((nI j) + 1).toNatClampNeg) (xs ((nI j) + 2).toNatClampNeg) hI
  refine rx_callV 339 10 [.int (xs ((nI j) + 1).toNatClampNeg), .int (xs ((nI j) + 2).toNatClampNeg)] dL_law_339 caX10_sunday lL_32 inX10_sunday slX10_sunday rfl ly_0 ⟨_, rfl, rfl⟩ rln_0 naX10_sunday (Nat.le_of_ble_eq_true rfl) (Nat.le_of_ble_eq_true rfl) (by decide) (Nat.le_refl _) (Nat.le_refl _) (wX10_sunday (xs ((nI j) + 1).toNatClampNeg) (xs ((nI j) + 2).toNatClampNeg) μ h1) ?_
  intro r9 σ9 h9 _
  obtain ⟨rfl, rfl⟩ := h9
  refine rx_aload_n 342 dL_law_342 2 rfl ?_
  refine rx_aload_n 343 dL_law_343 0 rfl ?_
  refine rx_iload_n 344 dL_law_344 3 rfl ?_
  refine rx_iconst 345 (v := 1) dL_law_345 (by decide) ?_
  refine rx_iadd 346 dL_law_346 ?_
  refine rx_sld 347 dL_law_347 (hi 1 (by decide)) ?_
  refine rx_aload_n 348 dL_law_348 0 rfl ?_
  refine rx_iload_n 349 dL_law_349 3 rfl ?_
  refine rx_iconst 350 (v := 2) dL_law_350 (by decide) ?_
  refine rx_iadd 351 dL_law_351 ?_
  refine rx_sld 352 dL_law_352 (hi 2 (by decide)) ?_
  refine rx_callV 353 11 [.int (xs ((nI j) + 1).toNatClampNeg), .int (xs ((nI j) + 2).toNatClampNeg)] dL_law_353 caX11_sunday lL_36 inX11_sunday slX11_sunday rfl ly_243 ⟨_, rfl, rfl⟩ rln_243 naX11_sunday (Nat.le_of_ble_eq_true rfl) (Nat.le_of_ble_eq_true rfl) (by decide) (Nat.le_refl _) (Nat.le_refl _) (wX11_sunday (xs ((nI j) + 1).toNatClampNeg) (xs ((nI j) + 2).toNatClampNeg) μ1 h2) ?_
  intro r9 σ9 h9 _
  obtain ⟨rfl, rfl⟩ := h9
  refine rx_icmp_eq 356 1368 dL_law_356 (by decide) (fun _ => ?_) (fun c3 => absurd rfl c3)
  exact hcont _ hI
def st_guest (Inv : Mem → Prop) : Prop := ∀ (μ : Mem) (a1 : Int32) (a2 : Int32), Inv μ → ∃ (r : Int32) (μ1 : Mem) (μ2 : Mem), (fX10_guest a1 a2 μ) = some (r, μ1) ∧ (fX11_guest a1 a2 μ1) = some (r, μ2) ∧ Inv μ2
set_option maxRecDepth 100000 in
theorem lc_guest {Inv : Mem → Prop} (hst : st_guest Inv) {Ls j : Nat} {xs : Nat → Int32} (hi : ∀ c : Nat, c < 6 → inb (nI j + nI c) Ls) {μ : Mem} (hI : Inv μ) (hcont : ∀ μ2, Inv μ2 → RX (PX Ls xs) mL 1000 0 NF 1368 (LL j) [] (μ2, Rf0, NF) QL) : RX (PX Ls xs) mL 1000 0 NF 361 (LL j) [] (μ, Rf0, NF) QL := by
  refine rx_aload_n 361 dL_law_361 1 rfl ?_
  refine rx_aload_n 362 dL_law_362 0 rfl ?_
  refine rx_iload_n 363 dL_law_363 3 rfl ?_
  refine rx_iconst 364 (v := 1) dL_law_364 (by decide) ?_
  refine rx_iadd 365 dL_law_365 ?_
  refine rx_sld 366 dL_law_366 (hi 1 (by decide)) ?_
  refine rx_aload_n 367 dL_law_367 0 rfl ?_
  refine rx_iload_n 368 dL_law_368 3 rfl ?_
  refine rx_iconst 369 (v := 2) dL_law_369 (by decide) ?_
  refine rx_iadd 370 dL_law_370 ?_
  refine rx_sld 371 dL_law_371 (hi 2 (by decide)) ?_
  obtain ⟨r, μ1, μ2, h1, h2, hI⟩ := hst μ (xs ((nI j) + 1).toNatClampNeg) (xs ((nI j) + 2).toNatClampNeg) hI
  refine rx_callV 372 10 [.int (xs ((nI j) + 1).toNatClampNeg), .int (xs ((nI j) + 2).toNatClampNeg)] dL_law_372 caX10_guest lL_37 inX10_guest slX10_guest rfl ly_0 ⟨_, rfl, rfl⟩ rln_0 naX10_guest (Nat.le_of_ble_eq_true rfl) (Nat.le_of_ble_eq_true rfl) (by decide) (Nat.le_refl _) (Nat.le_refl _) (wX10_guest (xs ((nI j) + 1).toNatClampNeg) (xs ((nI j) + 2).toNatClampNeg) μ h1) ?_
  intro r9 σ9 h9 _
  obtain ⟨rfl, rfl⟩ := h9
  refine rx_aload_n 375 dL_law_375 2 rfl ?_
  refine rx_aload_n 376 dL_law_376 0 rfl ?_
  refine rx_iload_n 377 dL_law_377 3 rfl ?_
  refine rx_iconst 378 (v := 1) dL_law_378 (by decide) ?_
  refine rx_iadd 379 dL_law_379 ?_
  refine rx_sld 380 dL_law_380 (hi 1 (by decide)) ?_
  refine rx_aload_n 381 dL_law_381 0 rfl ?_
  refine rx_iload_n 382 dL_law_382 3 rfl ?_
  refine rx_iconst 383 (v := 2) dL_law_383 (by decide) ?_
  refine rx_iadd 384 dL_law_384 ?_
  refine rx_sld 385 dL_law_385 (hi 2 (by decide)) ?_
  refine rx_callV 386 11 [.int (xs ((nI j) + 1).toNatClampNeg), .int (xs ((nI j) + 2).toNatClampNeg)] dL_law_386 caX11_guest lL_40 inX11_guest slX11_guest rfl ly_243 ⟨_, rfl, rfl⟩ rln_243 naX11_guest (Nat.le_of_ble_eq_true rfl) (Nat.le_of_ble_eq_true rfl) (by decide) (Nat.le_refl _) (Nat.le_refl _) (wX11_guest (xs ((nI j) + 1).toNatClampNeg) (xs ((nI j) + 2).toNatClampNeg) μ1 h2) ?_
  intro r9 σ9 h9 _
  obtain ⟨rfl, rfl⟩ := h9
  refine rx_icmp_eq 389 1368 dL_law_389 (by decide) (fun _ => ?_) (fun c3 => absurd rfl c3)
  exact hcont _ hI
def st_at (Inv : Mem → Prop) : Prop := ∀ (μ : Mem) (a1 : Int32) (a2 : Int32), Inv μ → ∃ (r : Int32) (μ2 : Mem), (fX10_at a1 a2 μ) = some r ∧ (fX11_at a1 a2 μ) = some (r, μ2) ∧ Inv μ2
set_option maxRecDepth 100000 in
theorem lc_at {Inv : Mem → Prop} (hst : st_at Inv) {Ls j : Nat} {xs : Nat → Int32} (hi : ∀ c : Nat, c < 6 → inb (nI j + nI c) Ls) {μ : Mem} (hI : Inv μ) (hcont : ∀ μ2, Inv μ2 → RX (PX Ls xs) mL 1000 0 NF 1368 (LL j) [] (μ2, Rf0, NF) QL) : RX (PX Ls xs) mL 1000 0 NF 394 (LL j) [] (μ, Rf0, NF) QL := by
  refine rx_aload_n 394 dL_law_394 1 rfl ?_
  refine rx_aload_n 395 dL_law_395 0 rfl ?_
  refine rx_iload_n 396 dL_law_396 3 rfl ?_
  refine rx_iconst 397 (v := 1) dL_law_397 (by decide) ?_
  refine rx_iadd 398 dL_law_398 ?_
  refine rx_sld 399 dL_law_399 (hi 1 (by decide)) ?_
  refine rx_aload_n 400 dL_law_400 0 rfl ?_
  refine rx_iload_n 401 dL_law_401 3 rfl ?_
  refine rx_iconst 402 (v := 2) dL_law_402 (by decide) ?_
  refine rx_iadd 403 dL_law_403 ?_
  refine rx_sld 404 dL_law_404 (hi 2 (by decide)) ?_
  obtain ⟨r, μ2, h1, h2, hI⟩ := hst μ (xs ((nI j) + 1).toNatClampNeg) (xs ((nI j) + 2).toNatClampNeg) hI
  refine rx_callV 405 10 [.int (xs ((nI j) + 1).toNatClampNeg), .int (xs ((nI j) + 2).toNatClampNeg)] dL_law_405 caX10_at lL_41 inX10_at slX10_at rfl ly_0 ⟨_, rfl, rfl⟩ rln_0 naX10_at (Nat.le_of_ble_eq_true rfl) (Nat.le_of_ble_eq_true rfl) (by decide) (Nat.le_refl _) (Nat.le_refl _) (wX10_at (xs ((nI j) + 1).toNatClampNeg) (xs ((nI j) + 2).toNatClampNeg) μ h1) ?_
  intro r9 σ9 h9 _
  obtain ⟨rfl, rfl⟩ := h9
  refine rx_aload_n 408 dL_law_408 2 rfl ?_
  refine rx_aload_n 409 dL_law_409 0 rfl ?_
  refine rx_iload_n 410 dL_law_410 3 rfl ?_
  refine rx_iconst 411 (v := 1) dL_law_411 (by decide) ?_
  refine rx_iadd 412 dL_law_412 ?_
  refine rx_sld 413 dL_law_413 (hi 1 (by decide)) ?_
  refine rx_aload_n 414 dL_law_414 0 rfl ?_
  refine rx_iload_n 415 dL_law_415 3 rfl ?_
  refine rx_iconst 416 (v := 2) dL_law_416 (by decide) ?_
  refine rx_iadd 417 dL_law_417 ?_
  refine rx_sld 418 dL_law_418 (hi 2 (by decide)) ?_
  refine rx_callV 419 11 [.int (xs ((nI j) + 1).toNatClampNeg), .int (xs ((nI j) + 2).toNatClampNeg)] dL_law_419 caX11_at lL_44 inX11_at slX11_at rfl ly_243 ⟨_, rfl, rfl⟩ rln_243 naX11_at (Nat.le_of_ble_eq_true rfl) (Nat.le_of_ble_eq_true rfl) (by decide) (Nat.le_refl _) (Nat.le_refl _) (wX11_at (xs ((nI j) + 1).toNatClampNeg) (xs ((nI j) + 2).toNatClampNeg) μ h2) ?_
  intro r9 σ9 h9 _
  obtain ⟨rfl, rfl⟩ := h9
  refine rx_icmp_eq 422 1368 dL_law_422 (by decide) (fun _ => ?_) (fun c3 => absurd rfl c3)
  exact hcont _ hI
def st_letIn (Inv : Mem → Prop) : Prop := ∀ (μ : Mem) (a1 : Int32) (a2 : Int32), Inv μ → ∃ (r : Bool) (μ1 : Mem) (μ2 : Mem), (fX10_letIn a1 a2 μ) = some (r, μ1) ∧ (fX11_letIn a1 a2 μ1) = some (r, μ2) ∧ Inv μ2
set_option maxRecDepth 100000 in
theorem lc_letIn {Inv : Mem → Prop} (hst : st_letIn Inv) {Ls j : Nat} {xs : Nat → Int32} (hi : ∀ c : Nat, c < 6 → inb (nI j + nI c) Ls) {μ : Mem} (hI : Inv μ) (hcont : ∀ μ2, Inv μ2 → RX (PX Ls xs) mL 1000 0 NF 1368 (LL j) [] (μ2, Rf0, NF) QL) : RX (PX Ls xs) mL 1000 0 NF 427 (LL j) [] (μ, Rf0, NF) QL := by
  refine rx_aload_n 427 dL_law_427 1 rfl ?_
  refine rx_aload_n 428 dL_law_428 0 rfl ?_
  refine rx_iload_n 429 dL_law_429 3 rfl ?_
  refine rx_iconst 430 (v := 1) dL_law_430 (by decide) ?_
  refine rx_iadd 431 dL_law_431 ?_
  refine rx_sld 432 dL_law_432 (hi 1 (by decide)) ?_
  refine rx_aload_n 433 dL_law_433 0 rfl ?_
  refine rx_iload_n 434 dL_law_434 3 rfl ?_
  refine rx_iconst 435 (v := 2) dL_law_435 (by decide) ?_
  refine rx_iadd 436 dL_law_436 ?_
  refine rx_sld 437 dL_law_437 (hi 2 (by decide)) ?_
  obtain ⟨r, μ1, μ2, h1, h2, hI⟩ := hst μ (xs ((nI j) + 1).toNatClampNeg) (xs ((nI j) + 2).toNatClampNeg) hI
  refine rx_callV 438 10 [.int (xs ((nI j) + 1).toNatClampNeg), .int (xs ((nI j) + 2).toNatClampNeg)] dL_law_438 caX10_letIn lL_45 inX10_letIn slX10_letIn rfl ly_0 ⟨_, rfl, rfl⟩ rln_0 naX10_letIn (Nat.le_of_ble_eq_true rfl) (Nat.le_of_ble_eq_true rfl) (by decide) (Nat.le_refl _) (Nat.le_refl _) (wX10_letIn (xs ((nI j) + 1).toNatClampNeg) (xs ((nI j) + 2).toNatClampNeg) μ h1) ?_
  intro r9 σ9 h9 _
  obtain ⟨rfl, rfl⟩ := h9
  refine rx_aload_n 441 dL_law_441 2 rfl ?_
  refine rx_aload_n 442 dL_law_442 0 rfl ?_
  refine rx_iload_n 443 dL_law_443 3 rfl ?_
  refine rx_iconst 444 (v := 1) dL_law_444 (by decide) ?_
  refine rx_iadd 445 dL_law_445 ?_
  refine rx_sld 446 dL_law_446 (hi 1 (by decide)) ?_
  refine rx_aload_n 447 dL_law_447 0 rfl ?_
  refine rx_iload_n 448 dL_law_448 3 rfl ?_
  refine rx_iconst 449 (v := 2) dL_law_449 (by decide) ?_
  refine rx_iadd 450 dL_law_450 ?_
  refine rx_sld 451 dL_law_451 (hi 2 (by decide)) ?_
  refine rx_callV 452 11 [.int (xs ((nI j) + 1).toNatClampNeg), .int (xs ((nI j) + 2).toNatClampNeg)] dL_law_452 caX11_letIn lL_49 inX11_letIn slX11_letIn rfl ly_243 ⟨_, rfl, rfl⟩ rln_243 naX11_letIn (Nat.le_of_ble_eq_true rfl) (Nat.le_of_ble_eq_true rfl) (by decide) (Nat.le_refl _) (Nat.le_refl _) (wX11_letIn (xs ((nI j) + 1).toNatClampNeg) (xs ((nI j) + 2).toNatClampNeg) μ1 h2) ?_
  intro r9 σ9 h9 _
  obtain ⟨rfl, rfl⟩ := h9
  refine rx_icmp_eq 455 1368 dL_law_455 (by decide) (fun _ => ?_) (fun c3 => absurd rfl c3)
  exact hcont _ hI
def st_putOut (Inv : Mem → Prop) : Prop := ∀ (μ : Mem) (a1 : Int32), Inv μ → ∃ (r : Bool) (μ1 : Mem) (μ2 : Mem), (fX10_putOut a1 μ) = some (r, μ1) ∧ (fX11_putOut a1 μ1) = some (r, μ2) ∧ Inv μ2
set_option maxRecDepth 100000 in
theorem lc_putOut {Inv : Mem → Prop} (hst : st_putOut Inv) {Ls j : Nat} {xs : Nat → Int32} (hi : ∀ c : Nat, c < 6 → inb (nI j + nI c) Ls) {μ : Mem} (hI : Inv μ) (hcont : ∀ μ2, Inv μ2 → RX (PX Ls xs) mL 1000 0 NF 1368 (LL j) [] (μ2, Rf0, NF) QL) : RX (PX Ls xs) mL 1000 0 NF 460 (LL j) [] (μ, Rf0, NF) QL := by
  refine rx_aload_n 460 dL_law_460 1 rfl ?_
  refine rx_aload_n 461 dL_law_461 0 rfl ?_
  refine rx_iload_n 462 dL_law_462 3 rfl ?_
  refine rx_iconst 463 (v := 1) dL_law_463 (by decide) ?_
  refine rx_iadd 464 dL_law_464 ?_
  refine rx_sld 465 dL_law_465 (hi 1 (by decide)) ?_
  obtain ⟨r, μ1, μ2, h1, h2, hI⟩ := hst μ (xs ((nI j) + 1).toNatClampNeg) hI
  refine rx_callV 466 10 [.int (xs ((nI j) + 1).toNatClampNeg)] dL_law_466 caX10_putOut lL_50 inX10_putOut slX10_putOut rfl ly_0 ⟨_, rfl, rfl⟩ rln_0 naX10_putOut (Nat.le_of_ble_eq_true rfl) (Nat.le_of_ble_eq_true rfl) (by decide) (Nat.le_refl _) (Nat.le_refl _) (wX10_putOut (xs ((nI j) + 1).toNatClampNeg) μ h1) ?_
  intro r9 σ9 h9 _
  obtain ⟨rfl, rfl⟩ := h9
  refine rx_aload_n 469 dL_law_469 2 rfl ?_
  refine rx_aload_n 470 dL_law_470 0 rfl ?_
  refine rx_iload_n 471 dL_law_471 3 rfl ?_
  refine rx_iconst 472 (v := 1) dL_law_472 (by decide) ?_
  refine rx_iadd 473 dL_law_473 ?_
  refine rx_sld 474 dL_law_474 (hi 1 (by decide)) ?_
  refine rx_callV 475 11 [.int (xs ((nI j) + 1).toNatClampNeg)] dL_law_475 caX11_putOut lL_54 inX11_putOut slX11_putOut rfl ly_243 ⟨_, rfl, rfl⟩ rln_243 naX11_putOut (Nat.le_of_ble_eq_true rfl) (Nat.le_of_ble_eq_true rfl) (by decide) (Nat.le_refl _) (Nat.le_refl _) (wX11_putOut (xs ((nI j) + 1).toNatClampNeg) μ1 h2) ?_
  intro r9 σ9 h9 _
  obtain ⟨rfl, rfl⟩ := h9
  refine rx_icmp_eq 478 1368 dL_law_478 (by decide) (fun _ => ?_) (fun c3 => absurd rfl c3)
  exact hcont _ hI
def st_sell (Inv : Mem → Prop) : Prop := ∀ (μ : Mem) (a1 : Int32), Inv μ → ∃ (r : Int32) (μ1 : Mem) (μ2 : Mem), (fX10_sell a1 μ) = some (r, μ1) ∧ (fX11_sell a1 μ1) = some (r, μ2) ∧ Inv μ2
set_option maxRecDepth 100000 in
theorem lc_sell {Inv : Mem → Prop} (hst : st_sell Inv) {Ls j : Nat} {xs : Nat → Int32} (hi : ∀ c : Nat, c < 6 → inb (nI j + nI c) Ls) {μ : Mem} (hI : Inv μ) (hcont : ∀ μ2, Inv μ2 → RX (PX Ls xs) mL 1000 0 NF 1368 (LL j) [] (μ2, Rf0, NF) QL) : RX (PX Ls xs) mL 1000 0 NF 483 (LL j) [] (μ, Rf0, NF) QL := by
  refine rx_aload_n 483 dL_law_483 1 rfl ?_
  refine rx_aload_n 484 dL_law_484 0 rfl ?_
  refine rx_iload_n 485 dL_law_485 3 rfl ?_
  refine rx_iconst 486 (v := 1) dL_law_486 (by decide) ?_
  refine rx_iadd 487 dL_law_487 ?_
  refine rx_sld 488 dL_law_488 (hi 1 (by decide)) ?_
  obtain ⟨r, μ1, μ2, h1, h2, hI⟩ := hst μ (xs ((nI j) + 1).toNatClampNeg) hI
  refine rx_callV 489 10 [.int (xs ((nI j) + 1).toNatClampNeg)] dL_law_489 caX10_sell lL_55 inX10_sell slX10_sell rfl ly_0 ⟨_, rfl, rfl⟩ rln_0 naX10_sell (Nat.le_of_ble_eq_true rfl) (Nat.le_of_ble_eq_true rfl) (by decide) (Nat.le_refl _) (Nat.le_refl _) (wX10_sell (xs ((nI j) + 1).toNatClampNeg) μ h1) ?_
  intro r9 σ9 h9 _
  obtain ⟨rfl, rfl⟩ := h9
  refine rx_aload_n 492 dL_law_492 2 rfl ?_
  refine rx_aload_n 493 dL_law_493 0 rfl ?_
  refine rx_iload_n 494 dL_law_494 3 rfl ?_
  refine rx_iconst 495 (v := 1) dL_law_495 (by decide) ?_
  refine rx_iadd 496 dL_law_496 ?_
  refine rx_sld 497 dL_law_497 (hi 1 (by decide)) ?_
  refine rx_callV 498 11 [.int (xs ((nI j) + 1).toNatClampNeg)] dL_law_498 caX11_sell lL_58 inX11_sell slX11_sell rfl ly_243 ⟨_, rfl, rfl⟩ rln_243 naX11_sell (Nat.le_of_ble_eq_true rfl) (Nat.le_of_ble_eq_true rfl) (by decide) (Nat.le_refl _) (Nat.le_refl _) (wX11_sell (xs ((nI j) + 1).toNatClampNeg) μ1 h2) ?_
  intro r9 σ9 h9 _
  obtain ⟨rfl, rfl⟩ := h9
  refine rx_icmp_eq 501 1368 dL_law_501 (by decide) (fun _ => ?_) (fun c3 => absurd rfl c3)
  exact hcont _ hI
def st_air (Inv : Mem → Prop) : Prop := ∀ (μ : Mem) (a1 : Int32), Inv μ → ∃ (r : Bool) (μ1 : Mem) (μ2 : Mem), (fX10_air a1 μ) = some (r, μ1) ∧ (fX11_air a1 μ1) = some (r, μ2) ∧ Inv μ2
set_option maxRecDepth 100000 in
theorem lc_air {Inv : Mem → Prop} (hst : st_air Inv) {Ls j : Nat} {xs : Nat → Int32} (hi : ∀ c : Nat, c < 6 → inb (nI j + nI c) Ls) {μ : Mem} (hI : Inv μ) (hcont : ∀ μ2, Inv μ2 → RX (PX Ls xs) mL 1000 0 NF 1368 (LL j) [] (μ2, Rf0, NF) QL) : RX (PX Ls xs) mL 1000 0 NF 506 (LL j) [] (μ, Rf0, NF) QL := by
  refine rx_aload_n 506 dL_law_506 1 rfl ?_
  refine rx_aload_n 507 dL_law_507 0 rfl ?_
  refine rx_iload_n 508 dL_law_508 3 rfl ?_
  refine rx_iconst 509 (v := 1) dL_law_509 (by decide) ?_
  refine rx_iadd 510 dL_law_510 ?_
  refine rx_sld 511 dL_law_511 (hi 1 (by decide)) ?_
  obtain ⟨r, μ1, μ2, h1, h2, hI⟩ := hst μ (xs ((nI j) + 1).toNatClampNeg) hI
  refine rx_callV 512 10 [.int (xs ((nI j) + 1).toNatClampNeg)] dL_law_512 caX10_air lL_59 inX10_air slX10_air rfl ly_0 ⟨_, rfl, rfl⟩ rln_0 naX10_air (Nat.le_of_ble_eq_true rfl) (Nat.le_of_ble_eq_true rfl) (by decide) (Nat.le_refl _) (Nat.le_refl _) (wX10_air (xs ((nI j) + 1).toNatClampNeg) μ h1) ?_
  intro r9 σ9 h9 _
  obtain ⟨rfl, rfl⟩ := h9
  refine rx_aload_n 515 dL_law_515 2 rfl ?_
  refine rx_aload_n 516 dL_law_516 0 rfl ?_
  refine rx_iload_n 517 dL_law_517 3 rfl ?_
  refine rx_iconst 518 (v := 1) dL_law_518 (by decide) ?_
  refine rx_iadd 519 dL_law_519 ?_
  refine rx_sld 520 dL_law_520 (hi 1 (by decide)) ?_
  refine rx_callV 521 11 [.int (xs ((nI j) + 1).toNatClampNeg)] dL_law_521 caX11_air lL_62 inX11_air slX11_air rfl ly_243 ⟨_, rfl, rfl⟩ rln_243 naX11_air (Nat.le_of_ble_eq_true rfl) (Nat.le_of_ble_eq_true rfl) (by decide) (Nat.le_refl _) (Nat.le_refl _) (wX11_air (xs ((nI j) + 1).toNatClampNeg) μ1 h2) ?_
  intro r9 σ9 h9 _
  obtain ⟨rfl, rfl⟩ := h9
  refine rx_icmp_eq 524 1368 dL_law_524 (by decide) (fun _ => ?_) (fun c3 => absurd rfl c3)
  exact hcont _ hI
def st_weeks (Inv : Mem → Prop) : Prop := ∀ (μ : Mem) (a1 : Int32), Inv μ → ∃ (r : Int32) (μ1 : Mem) (μ2 : Mem), (fX10_weeks a1 μ) = some (r, μ1) ∧ (fX11_weeks a1 μ1) = some (r, μ2) ∧ Inv μ2
set_option maxRecDepth 100000 in
theorem lc_weeks {Inv : Mem → Prop} (hst : st_weeks Inv) {Ls j : Nat} {xs : Nat → Int32} (hi : ∀ c : Nat, c < 6 → inb (nI j + nI c) Ls) {μ : Mem} (hI : Inv μ) (hcont : ∀ μ2, Inv μ2 → RX (PX Ls xs) mL 1000 0 NF 1368 (LL j) [] (μ2, Rf0, NF) QL) : RX (PX Ls xs) mL 1000 0 NF 529 (LL j) [] (μ, Rf0, NF) QL := by
  refine rx_aload_n 529 dL_law_529 1 rfl ?_
  refine rx_aload_n 530 dL_law_530 0 rfl ?_
  refine rx_iload_n 531 dL_law_531 3 rfl ?_
  refine rx_iconst 532 (v := 1) dL_law_532 (by decide) ?_
  refine rx_iadd 533 dL_law_533 ?_
  refine rx_sld 534 dL_law_534 (hi 1 (by decide)) ?_
  obtain ⟨r, μ1, μ2, h1, h2, hI⟩ := hst μ (xs ((nI j) + 1).toNatClampNeg) hI
  refine rx_callV 535 10 [.int (xs ((nI j) + 1).toNatClampNeg)] dL_law_535 caX10_weeks lL_63 inX10_weeks slX10_weeks rfl ly_0 ⟨_, rfl, rfl⟩ rln_0 naX10_weeks (Nat.le_of_ble_eq_true rfl) (Nat.le_of_ble_eq_true rfl) (by decide) (Nat.le_refl _) (Nat.le_refl _) (wX10_weeks (xs ((nI j) + 1).toNatClampNeg) μ h1) ?_
  intro r9 σ9 h9 _
  obtain ⟨rfl, rfl⟩ := h9
  refine rx_aload_n 538 dL_law_538 2 rfl ?_
  refine rx_aload_n 539 dL_law_539 0 rfl ?_
  refine rx_iload_n 540 dL_law_540 3 rfl ?_
  refine rx_iconst 541 (v := 1) dL_law_541 (by decide) ?_
  refine rx_iadd 542 dL_law_542 ?_
  refine rx_sld 543 dL_law_543 (hi 1 (by decide)) ?_
  refine rx_callV 544 11 [.int (xs ((nI j) + 1).toNatClampNeg)] dL_law_544 caX11_weeks lL_66 inX11_weeks slX11_weeks rfl ly_243 ⟨_, rfl, rfl⟩ rln_243 naX11_weeks (Nat.le_of_ble_eq_true rfl) (Nat.le_of_ble_eq_true rfl) (by decide) (Nat.le_refl _) (Nat.le_refl _) (wX11_weeks (xs ((nI j) + 1).toNatClampNeg) μ1 h2) ?_
  intro r9 σ9 h9 _
  obtain ⟨rfl, rfl⟩ := h9
  refine rx_icmp_eq 547 1368 dL_law_547 (by decide) (fun _ => ?_) (fun c3 => absurd rfl c3)
  exact hcont _ hI
def st_undo (Inv : Mem → Prop) : Prop := ∀ (μ : Mem) , Inv μ → ∃ (r : Bool) (μ1 : Mem) (μ2 : Mem), (fX10_undo μ) = some (r, μ1) ∧ (fX11_undo μ1) = some (r, μ2) ∧ Inv μ2
set_option maxRecDepth 100000 in
theorem lc_undo {Inv : Mem → Prop} (hst : st_undo Inv) {Ls j : Nat} {xs : Nat → Int32} (hi : ∀ c : Nat, c < 6 → inb (nI j + nI c) Ls) {μ : Mem} (hI : Inv μ) (hcont : ∀ μ2, Inv μ2 → RX (PX Ls xs) mL 1000 0 NF 1368 (LL j) [] (μ2, Rf0, NF) QL) : RX (PX Ls xs) mL 1000 0 NF 552 (LL j) [] (μ, Rf0, NF) QL := by
  refine rx_aload_n 552 dL_law_552 1 rfl ?_
  obtain ⟨r, μ1, μ2, h1, h2, hI⟩ := hst μ  hI
  refine rx_callV 553 10 [] dL_law_553 caX10_undo lL_67 inX10_undo slX10_undo rfl ly_0 ⟨_, rfl, rfl⟩ rln_0 naX10_undo (Nat.le_of_ble_eq_true rfl) (Nat.le_of_ble_eq_true rfl) (by decide) (Nat.le_refl _) (Nat.le_refl _) (wX10_undo μ h1) ?_
  intro r9 σ9 h9 _
  obtain ⟨rfl, rfl⟩ := h9
  refine rx_aload_n 556 dL_law_556 2 rfl ?_
  refine rx_callV 557 11 [] dL_law_557 caX11_undo lL_71 inX11_undo slX11_undo rfl ly_243 ⟨_, rfl, rfl⟩ rln_243 naX11_undo (Nat.le_of_ble_eq_true rfl) (Nat.le_of_ble_eq_true rfl) (by decide) (Nat.le_refl _) (Nat.le_refl _) (wX11_undo μ1 h2) ?_
  intro r9 σ9 h9 _
  obtain ⟨rfl, rfl⟩ := h9
  refine rx_icmp_eq 560 1368 dL_law_560 (by decide) (fun _ => ?_) (fun c3 => absurd rfl c3)
  exact hcont _ hI
def st_alone (Inv : Mem → Prop) : Prop := ∀ (μ : Mem) (a1 : Int32) (a2 : Int32), Inv μ → ∃ (r : Int32) (μ1 : Mem) (μ2 : Mem), (fX10_alone a1 a2 μ) = some (r, μ1) ∧ (fX11_alone a1 a2 μ1) = some (r, μ2) ∧ Inv μ2
set_option maxRecDepth 100000 in
theorem lc_alone {Inv : Mem → Prop} (hst : st_alone Inv) {Ls j : Nat} {xs : Nat → Int32} (hi : ∀ c : Nat, c < 6 → inb (nI j + nI c) Ls) {μ : Mem} (hI : Inv μ) (hcont : ∀ μ2, Inv μ2 → RX (PX Ls xs) mL 1000 0 NF 1368 (LL j) [] (μ2, Rf0, NF) QL) : RX (PX Ls xs) mL 1000 0 NF 565 (LL j) [] (μ, Rf0, NF) QL := by
  refine rx_aload_n 565 dL_law_565 1 rfl ?_
  refine rx_aload_n 566 dL_law_566 0 rfl ?_
  refine rx_iload_n 567 dL_law_567 3 rfl ?_
  refine rx_iconst 568 (v := 1) dL_law_568 (by decide) ?_
  refine rx_iadd 569 dL_law_569 ?_
  refine rx_sld 570 dL_law_570 (hi 1 (by decide)) ?_
  refine rx_aload_n 571 dL_law_571 0 rfl ?_
  refine rx_iload_n 572 dL_law_572 3 rfl ?_
  refine rx_iconst 573 (v := 2) dL_law_573 (by decide) ?_
  refine rx_iadd 574 dL_law_574 ?_
  refine rx_sld 575 dL_law_575 (hi 2 (by decide)) ?_
  obtain ⟨r, μ1, μ2, h1, h2, hI⟩ := hst μ (xs ((nI j) + 1).toNatClampNeg) (xs ((nI j) + 2).toNatClampNeg) hI
  refine rx_callV 576 10 [.int (xs ((nI j) + 1).toNatClampNeg), .int (xs ((nI j) + 2).toNatClampNeg)] dL_law_576 caX10_alone lL_72 inX10_alone slX10_alone rfl ly_0 ⟨_, rfl, rfl⟩ rln_0 naX10_alone (Nat.le_of_ble_eq_true rfl) (Nat.le_of_ble_eq_true rfl) (by decide) (Nat.le_refl _) (Nat.le_refl _) (wX10_alone (xs ((nI j) + 1).toNatClampNeg) (xs ((nI j) + 2).toNatClampNeg) μ h1) ?_
  intro r9 σ9 h9 _
  obtain ⟨rfl, rfl⟩ := h9
  refine rx_aload_n 579 dL_law_579 2 rfl ?_
  refine rx_aload_n 580 dL_law_580 0 rfl ?_
  refine rx_iload_n 581 dL_law_581 3 rfl ?_
  refine rx_iconst 582 (v := 1) dL_law_582 (by decide) ?_
  refine rx_iadd 583 dL_law_583 ?_
  refine rx_sld 584 dL_law_584 (hi 1 (by decide)) ?_
  refine rx_aload_n 585 dL_law_585 0 rfl ?_
  refine rx_iload_n 586 dL_law_586 3 rfl ?_
  refine rx_iconst 587 (v := 2) dL_law_587 (by decide) ?_
  refine rx_iadd 588 dL_law_588 ?_
  refine rx_sld 589 dL_law_589 (hi 2 (by decide)) ?_
  refine rx_callV 590 11 [.int (xs ((nI j) + 1).toNatClampNeg), .int (xs ((nI j) + 2).toNatClampNeg)] dL_law_590 caX11_alone lL_75 inX11_alone slX11_alone rfl ly_243 ⟨_, rfl, rfl⟩ rln_243 naX11_alone (Nat.le_of_ble_eq_true rfl) (Nat.le_of_ble_eq_true rfl) (by decide) (Nat.le_refl _) (Nat.le_refl _) (wX11_alone (xs ((nI j) + 1).toNatClampNeg) (xs ((nI j) + 2).toNatClampNeg) μ1 h2) ?_
  intro r9 σ9 h9 _
  obtain ⟨rfl, rfl⟩ := h9
  refine rx_icmp_eq 593 1368 dL_law_593 (by decide) (fun _ => ?_) (fun c3 => absurd rfl c3)
  exact hcont _ hI
def st_letting (Inv : Mem → Prop) : Prop := ∀ (μ : Mem) (a1 : Int32), Inv μ → ∃ (r : Int32) (μ1 : Mem) (μ2 : Mem), (fX10_letting a1 μ) = some (r, μ1) ∧ (fX11_letting a1 μ1) = some (r, μ2) ∧ Inv μ2
set_option maxRecDepth 100000 in
theorem lc_letting {Inv : Mem → Prop} (hst : st_letting Inv) {Ls j : Nat} {xs : Nat → Int32} (hi : ∀ c : Nat, c < 6 → inb (nI j + nI c) Ls) {μ : Mem} (hI : Inv μ) (hcont : ∀ μ2, Inv μ2 → RX (PX Ls xs) mL 1000 0 NF 1368 (LL j) [] (μ2, Rf0, NF) QL) : RX (PX Ls xs) mL 1000 0 NF 598 (LL j) [] (μ, Rf0, NF) QL := by
  refine rx_aload_n 598 dL_law_598 1 rfl ?_
  refine rx_aload_n 599 dL_law_599 0 rfl ?_
  refine rx_iload_n 600 dL_law_600 3 rfl ?_
  refine rx_iconst 601 (v := 1) dL_law_601 (by decide) ?_
  refine rx_iadd 602 dL_law_602 ?_
  refine rx_sld 603 dL_law_603 (hi 1 (by decide)) ?_
  obtain ⟨r, μ1, μ2, h1, h2, hI⟩ := hst μ (xs ((nI j) + 1).toNatClampNeg) hI
  refine rx_callV 604 10 [.int (xs ((nI j) + 1).toNatClampNeg)] dL_law_604 caX10_letting lL_76 inX10_letting slX10_letting rfl ly_0 ⟨_, rfl, rfl⟩ rln_0 naX10_letting (Nat.le_of_ble_eq_true rfl) (Nat.le_of_ble_eq_true rfl) (by decide) (Nat.le_refl _) (Nat.le_refl _) (wX10_letting (xs ((nI j) + 1).toNatClampNeg) μ h1) ?_
  intro r9 σ9 h9 _
  obtain ⟨rfl, rfl⟩ := h9
  refine rx_aload_n 607 dL_law_607 2 rfl ?_
  refine rx_aload_n 608 dL_law_608 0 rfl ?_
  refine rx_iload_n 609 dL_law_609 3 rfl ?_
  refine rx_iconst 610 (v := 1) dL_law_610 (by decide) ?_
  refine rx_iadd 611 dL_law_611 ?_
  refine rx_sld 612 dL_law_612 (hi 1 (by decide)) ?_
  refine rx_callV 613 11 [.int (xs ((nI j) + 1).toNatClampNeg)] dL_law_613 caX11_letting lL_79 inX11_letting slX11_letting rfl ly_243 ⟨_, rfl, rfl⟩ rln_243 naX11_letting (Nat.le_of_ble_eq_true rfl) (Nat.le_of_ble_eq_true rfl) (by decide) (Nat.le_refl _) (Nat.le_refl _) (wX11_letting (xs ((nI j) + 1).toNatClampNeg) μ1 h2) ?_
  intro r9 σ9 h9 _
  obtain ⟨rfl, rfl⟩ := h9
  refine rx_icmp_eq 616 1368 dL_law_616 (by decide) (fun _ => ?_) (fun c3 => absurd rfl c3)
  exact hcont _ hI
def st_fewest (Inv : Mem → Prop) : Prop := ∀ (μ : Mem) (a1 : Int32), Inv μ → ∃ (r : Int32) (μ1 : Mem) (μ2 : Mem), (fX10_fewest a1 μ) = some (r, μ1) ∧ (fX11_fewest a1 μ1) = some (r, μ2) ∧ Inv μ2
set_option maxRecDepth 100000 in
theorem lc_fewest {Inv : Mem → Prop} (hst : st_fewest Inv) {Ls j : Nat} {xs : Nat → Int32} (hi : ∀ c : Nat, c < 6 → inb (nI j + nI c) Ls) {μ : Mem} (hI : Inv μ) (hcont : ∀ μ2, Inv μ2 → RX (PX Ls xs) mL 1000 0 NF 1368 (LL j) [] (μ2, Rf0, NF) QL) : RX (PX Ls xs) mL 1000 0 NF 621 (LL j) [] (μ, Rf0, NF) QL := by
  refine rx_aload_n 621 dL_law_621 1 rfl ?_
  refine rx_aload_n 622 dL_law_622 0 rfl ?_
  refine rx_iload_n 623 dL_law_623 3 rfl ?_
  refine rx_iconst 624 (v := 1) dL_law_624 (by decide) ?_
  refine rx_iadd 625 dL_law_625 ?_
  refine rx_sld 626 dL_law_626 (hi 1 (by decide)) ?_
  obtain ⟨r, μ1, μ2, h1, h2, hI⟩ := hst μ (xs ((nI j) + 1).toNatClampNeg) hI
  refine rx_callV 627 10 [.int (xs ((nI j) + 1).toNatClampNeg)] dL_law_627 caX10_fewest lL_80 inX10_fewest slX10_fewest rfl ly_0 ⟨_, rfl, rfl⟩ rln_0 naX10_fewest (Nat.le_of_ble_eq_true rfl) (Nat.le_of_ble_eq_true rfl) (by decide) (Nat.le_refl _) (Nat.le_refl _) (wX10_fewest (xs ((nI j) + 1).toNatClampNeg) μ h1) ?_
  intro r9 σ9 h9 _
  obtain ⟨rfl, rfl⟩ := h9
  refine rx_aload_n 630 dL_law_630 2 rfl ?_
  refine rx_aload_n 631 dL_law_631 0 rfl ?_
  refine rx_iload_n 632 dL_law_632 3 rfl ?_
  refine rx_iconst 633 (v := 1) dL_law_633 (by decide) ?_
  refine rx_iadd 634 dL_law_634 ?_
  refine rx_sld 635 dL_law_635 (hi 1 (by decide)) ?_
  refine rx_callV 636 11 [.int (xs ((nI j) + 1).toNatClampNeg)] dL_law_636 caX11_fewest lL_83 inX11_fewest slX11_fewest rfl ly_243 ⟨_, rfl, rfl⟩ rln_243 naX11_fewest (Nat.le_of_ble_eq_true rfl) (Nat.le_of_ble_eq_true rfl) (by decide) (Nat.le_refl _) (Nat.le_refl _) (wX11_fewest (xs ((nI j) + 1).toNatClampNeg) μ1 h2) ?_
  intro r9 σ9 h9 _
  obtain ⟨rfl, rfl⟩ := h9
  refine rx_icmp_eq 639 1368 dL_law_639 (by decide) (fun _ => ?_) (fun c3 => absurd rfl c3)
  exact hcont _ hI
def st_colours (Inv : Mem → Prop) : Prop := ∀ (μ : Mem) , Inv μ → ∃ (r : Int32) (μ1 : Mem) (μ2 : Mem), (fX10_colours μ) = some (r, μ1) ∧ (fX11_colours μ1) = some (r, μ2) ∧ Inv μ2
set_option maxRecDepth 100000 in
theorem lc_colours {Inv : Mem → Prop} (hst : st_colours Inv) {Ls j : Nat} {xs : Nat → Int32} (hi : ∀ c : Nat, c < 6 → inb (nI j + nI c) Ls) {μ : Mem} (hI : Inv μ) (hcont : ∀ μ2, Inv μ2 → RX (PX Ls xs) mL 1000 0 NF 1368 (LL j) [] (μ2, Rf0, NF) QL) : RX (PX Ls xs) mL 1000 0 NF 644 (LL j) [] (μ, Rf0, NF) QL := by
  refine rx_aload_n 644 dL_law_644 1 rfl ?_
  obtain ⟨r, μ1, μ2, h1, h2, hI⟩ := hst μ  hI
  refine rx_callV 645 10 [] dL_law_645 caX10_colours lL_84 inX10_colours slX10_colours rfl ly_0 ⟨_, rfl, rfl⟩ rln_0 naX10_colours (Nat.le_of_ble_eq_true rfl) (Nat.le_of_ble_eq_true rfl) (by decide) (Nat.le_refl _) (Nat.le_refl _) (wX10_colours μ h1) ?_
  intro r9 σ9 h9 _
  obtain ⟨rfl, rfl⟩ := h9
  refine rx_aload_n 648 dL_law_648 2 rfl ?_
  refine rx_callV 649 11 [] dL_law_649 caX11_colours lL_87 inX11_colours slX11_colours rfl ly_243 ⟨_, rfl, rfl⟩ rln_243 naX11_colours (Nat.le_of_ble_eq_true rfl) (Nat.le_of_ble_eq_true rfl) (by decide) (Nat.le_refl _) (Nat.le_refl _) (wX11_colours μ1 h2) ?_
  intro r9 σ9 h9 _
  obtain ⟨rfl, rfl⟩ := h9
  refine rx_icmp_eq 652 1368 dL_law_652 (by decide) (fun _ => ?_) (fun c3 => absurd rfl c3)
  exact hcont _ hI
def st_tangle (Inv : Mem → Prop) : Prop := ∀ (μ : Mem) (a1 : Int32), Inv μ → ∃ (r : Int32) (μ2 : Mem), (fX10_tangle a1 μ) = some r ∧ (fX11_tangle a1 μ) = some (r, μ2) ∧ Inv μ2
set_option maxRecDepth 100000 in
theorem lc_tangle {Inv : Mem → Prop} (hst : st_tangle Inv) {Ls j : Nat} {xs : Nat → Int32} (hi : ∀ c : Nat, c < 6 → inb (nI j + nI c) Ls) {μ : Mem} (hI : Inv μ) (hcont : ∀ μ2, Inv μ2 → RX (PX Ls xs) mL 1000 0 NF 1368 (LL j) [] (μ2, Rf0, NF) QL) : RX (PX Ls xs) mL 1000 0 NF 657 (LL j) [] (μ, Rf0, NF) QL := by
  refine rx_aload_n 657 dL_law_657 1 rfl ?_
  refine rx_aload_n 658 dL_law_658 0 rfl ?_
  refine rx_iload_n 659 dL_law_659 3 rfl ?_
  refine rx_iconst 660 (v := 1) dL_law_660 (by decide) ?_
  refine rx_iadd 661 dL_law_661 ?_
  refine rx_sld 662 dL_law_662 (hi 1 (by decide)) ?_
  obtain ⟨r, μ2, h1, h2, hI⟩ := hst μ (xs ((nI j) + 1).toNatClampNeg) hI
  refine rx_callV 663 10 [.int (xs ((nI j) + 1).toNatClampNeg)] dL_law_663 caX10_tangle lL_88 inX10_tangle slX10_tangle rfl ly_0 ⟨_, rfl, rfl⟩ rln_0 naX10_tangle (Nat.le_of_ble_eq_true rfl) (Nat.le_of_ble_eq_true rfl) (by decide) (Nat.le_refl _) (Nat.le_refl _) (wX10_tangle (xs ((nI j) + 1).toNatClampNeg) μ h1) ?_
  intro r9 σ9 h9 _
  obtain ⟨rfl, rfl⟩ := h9
  refine rx_aload_n 666 dL_law_666 2 rfl ?_
  refine rx_aload_n 667 dL_law_667 0 rfl ?_
  refine rx_iload_n 668 dL_law_668 3 rfl ?_
  refine rx_iconst 669 (v := 1) dL_law_669 (by decide) ?_
  refine rx_iadd 670 dL_law_670 ?_
  refine rx_sld 671 dL_law_671 (hi 1 (by decide)) ?_
  refine rx_callV 672 11 [.int (xs ((nI j) + 1).toNatClampNeg)] dL_law_672 caX11_tangle lL_91 inX11_tangle slX11_tangle rfl ly_243 ⟨_, rfl, rfl⟩ rln_243 naX11_tangle (Nat.le_of_ble_eq_true rfl) (Nat.le_of_ble_eq_true rfl) (by decide) (Nat.le_refl _) (Nat.le_refl _) (wX11_tangle (xs ((nI j) + 1).toNatClampNeg) μ h2) ?_
  intro r9 σ9 h9 _
  obtain ⟨rfl, rfl⟩ := h9
  refine rx_icmp_eq 675 1368 dL_law_675 (by decide) (fun _ => ?_) (fun c3 => absurd rfl c3)
  exact hcont _ hI
def st_fitting (Inv : Mem → Prop) : Prop := ∀ (μ : Mem) (a1 : Int32), Inv μ → ∃ (r : Int32) (μ2 : Mem), (fX10_fitting a1 μ) = some r ∧ (fX11_fitting a1 μ) = some (r, μ2) ∧ Inv μ2
set_option maxRecDepth 100000 in
theorem lc_fitting {Inv : Mem → Prop} (hst : st_fitting Inv) {Ls j : Nat} {xs : Nat → Int32} (hi : ∀ c : Nat, c < 6 → inb (nI j + nI c) Ls) {μ : Mem} (hI : Inv μ) (hcont : ∀ μ2, Inv μ2 → RX (PX Ls xs) mL 1000 0 NF 1368 (LL j) [] (μ2, Rf0, NF) QL) : RX (PX Ls xs) mL 1000 0 NF 680 (LL j) [] (μ, Rf0, NF) QL := by
  refine rx_aload_n 680 dL_law_680 1 rfl ?_
  refine rx_aload_n 681 dL_law_681 0 rfl ?_
  refine rx_iload_n 682 dL_law_682 3 rfl ?_
  refine rx_iconst 683 (v := 1) dL_law_683 (by decide) ?_
  refine rx_iadd 684 dL_law_684 ?_
  refine rx_sld 685 dL_law_685 (hi 1 (by decide)) ?_
  obtain ⟨r, μ2, h1, h2, hI⟩ := hst μ (xs ((nI j) + 1).toNatClampNeg) hI
  refine rx_callV 686 10 [.int (xs ((nI j) + 1).toNatClampNeg)] dL_law_686 caX10_fitting lL_92 inX10_fitting slX10_fitting rfl ly_0 ⟨_, rfl, rfl⟩ rln_0 naX10_fitting (Nat.le_of_ble_eq_true rfl) (Nat.le_of_ble_eq_true rfl) (by decide) (Nat.le_refl _) (Nat.le_refl _) (wX10_fitting (xs ((nI j) + 1).toNatClampNeg) μ h1) ?_
  intro r9 σ9 h9 _
  obtain ⟨rfl, rfl⟩ := h9
  refine rx_aload_n 689 dL_law_689 2 rfl ?_
  refine rx_aload_n 690 dL_law_690 0 rfl ?_
  refine rx_iload_n 691 dL_law_691 3 rfl ?_
  refine rx_iconst 692 (v := 1) dL_law_692 (by decide) ?_
  refine rx_iadd 693 dL_law_693 ?_
  refine rx_sld 694 dL_law_694 (hi 1 (by decide)) ?_
  refine rx_callV 695 11 [.int (xs ((nI j) + 1).toNatClampNeg)] dL_law_695 caX11_fitting lL_95 inX11_fitting slX11_fitting rfl ly_243 ⟨_, rfl, rfl⟩ rln_243 naX11_fitting (Nat.le_of_ble_eq_true rfl) (Nat.le_of_ble_eq_true rfl) (by decide) (Nat.le_refl _) (Nat.le_refl _) (wX11_fitting (xs ((nI j) + 1).toNatClampNeg) μ h2) ?_
  intro r9 σ9 h9 _
  obtain ⟨rfl, rfl⟩ := h9
  refine rx_icmp_eq 698 1368 dL_law_698 (by decide) (fun _ => ?_) (fun c3 => absurd rfl c3)
  exact hcont _ hI
def st_row (Inv : Mem → Prop) : Prop := ∀ (μ : Mem) (a1 : Int32) (a2 : Int32), Inv μ → ∃ (r : Int32) (μ2 : Mem), (fX10_row a1 a2 μ) = some r ∧ (fX11_row a1 a2 μ) = some (r, μ2) ∧ Inv μ2
set_option maxRecDepth 100000 in
theorem lc_row {Inv : Mem → Prop} (hst : st_row Inv) {Ls j : Nat} {xs : Nat → Int32} (hi : ∀ c : Nat, c < 6 → inb (nI j + nI c) Ls) {μ : Mem} (hI : Inv μ) (hcont : ∀ μ2, Inv μ2 → RX (PX Ls xs) mL 1000 0 NF 1368 (LL j) [] (μ2, Rf0, NF) QL) : RX (PX Ls xs) mL 1000 0 NF 703 (LL j) [] (μ, Rf0, NF) QL := by
  refine rx_aload_n 703 dL_law_703 1 rfl ?_
  refine rx_aload_n 704 dL_law_704 0 rfl ?_
  refine rx_iload_n 705 dL_law_705 3 rfl ?_
  refine rx_iconst 706 (v := 1) dL_law_706 (by decide) ?_
  refine rx_iadd 707 dL_law_707 ?_
  refine rx_sld 708 dL_law_708 (hi 1 (by decide)) ?_
  refine rx_aload_n 709 dL_law_709 0 rfl ?_
  refine rx_iload_n 710 dL_law_710 3 rfl ?_
  refine rx_iconst 711 (v := 2) dL_law_711 (by decide) ?_
  refine rx_iadd 712 dL_law_712 ?_
  refine rx_sld 713 dL_law_713 (hi 2 (by decide)) ?_
  obtain ⟨r, μ2, h1, h2, hI⟩ := hst μ (xs ((nI j) + 1).toNatClampNeg) (xs ((nI j) + 2).toNatClampNeg) hI
  refine rx_callV 714 10 [.int (xs ((nI j) + 1).toNatClampNeg), .int (xs ((nI j) + 2).toNatClampNeg)] dL_law_714 caX10_row lL_96 inX10_row slX10_row rfl ly_0 ⟨_, rfl, rfl⟩ rln_0 naX10_row (Nat.le_of_ble_eq_true rfl) (Nat.le_of_ble_eq_true rfl) (by decide) (Nat.le_refl _) (Nat.le_refl _) (wX10_row (xs ((nI j) + 1).toNatClampNeg) (xs ((nI j) + 2).toNatClampNeg) μ h1) ?_
  intro r9 σ9 h9 _
  obtain ⟨rfl, rfl⟩ := h9
  refine rx_aload_n 717 dL_law_717 2 rfl ?_
  refine rx_aload_n 718 dL_law_718 0 rfl ?_
  refine rx_iload_n 719 dL_law_719 3 rfl ?_
  refine rx_iconst 720 (v := 1) dL_law_720 (by decide) ?_
  refine rx_iadd 721 dL_law_721 ?_
  refine rx_sld 722 dL_law_722 (hi 1 (by decide)) ?_
  refine rx_aload_n 723 dL_law_723 0 rfl ?_
  refine rx_iload_n 724 dL_law_724 3 rfl ?_
  refine rx_iconst 725 (v := 2) dL_law_725 (by decide) ?_
  refine rx_iadd 726 dL_law_726 ?_
  refine rx_sld 727 dL_law_727 (hi 2 (by decide)) ?_
  refine rx_callV 728 11 [.int (xs ((nI j) + 1).toNatClampNeg), .int (xs ((nI j) + 2).toNatClampNeg)] dL_law_728 caX11_row lL_99 inX11_row slX11_row rfl ly_243 ⟨_, rfl, rfl⟩ rln_243 naX11_row (Nat.le_of_ble_eq_true rfl) (Nat.le_of_ble_eq_true rfl) (by decide) (Nat.le_refl _) (Nat.le_refl _) (wX11_row (xs ((nI j) + 1).toNatClampNeg) (xs ((nI j) + 2).toNatClampNeg) μ h2) ?_
  intro r9 σ9 h9 _
  obtain ⟨rfl, rfl⟩ := h9
  refine rx_icmp_eq 731 1368 dL_law_731 (by decide) (fun _ => ?_) (fun c3 => absurd rfl c3)
  exact hcont _ hI
def st_change (Inv : Mem → Prop) : Prop := ∀ (μ : Mem) (a1 : Int32) (a2 : Int32), Inv μ → ∃ (r : Int32) (μ2 : Mem), (fX10_change a1 a2 μ) = some r ∧ (fX11_change a1 a2 μ) = some (r, μ2) ∧ Inv μ2
set_option maxRecDepth 100000 in
theorem lc_change {Inv : Mem → Prop} (hst : st_change Inv) {Ls j : Nat} {xs : Nat → Int32} (hi : ∀ c : Nat, c < 6 → inb (nI j + nI c) Ls) {μ : Mem} (hI : Inv μ) (hcont : ∀ μ2, Inv μ2 → RX (PX Ls xs) mL 1000 0 NF 1368 (LL j) [] (μ2, Rf0, NF) QL) : RX (PX Ls xs) mL 1000 0 NF 736 (LL j) [] (μ, Rf0, NF) QL := by
  refine rx_aload_n 736 dL_law_736 1 rfl ?_
  refine rx_aload_n 737 dL_law_737 0 rfl ?_
  refine rx_iload_n 738 dL_law_738 3 rfl ?_
  refine rx_iconst 739 (v := 1) dL_law_739 (by decide) ?_
  refine rx_iadd 740 dL_law_740 ?_
  refine rx_sld 741 dL_law_741 (hi 1 (by decide)) ?_
  refine rx_aload_n 742 dL_law_742 0 rfl ?_
  refine rx_iload_n 743 dL_law_743 3 rfl ?_
  refine rx_iconst 744 (v := 2) dL_law_744 (by decide) ?_
  refine rx_iadd 745 dL_law_745 ?_
  refine rx_sld 746 dL_law_746 (hi 2 (by decide)) ?_
  obtain ⟨r, μ2, h1, h2, hI⟩ := hst μ (xs ((nI j) + 1).toNatClampNeg) (xs ((nI j) + 2).toNatClampNeg) hI
  refine rx_callV 747 10 [.int (xs ((nI j) + 1).toNatClampNeg), .int (xs ((nI j) + 2).toNatClampNeg)] dL_law_747 caX10_change lL_100 inX10_change slX10_change rfl ly_0 ⟨_, rfl, rfl⟩ rln_0 naX10_change (Nat.le_of_ble_eq_true rfl) (Nat.le_of_ble_eq_true rfl) (by decide) (Nat.le_refl _) (Nat.le_refl _) (wX10_change (xs ((nI j) + 1).toNatClampNeg) (xs ((nI j) + 2).toNatClampNeg) μ h1) ?_
  intro r9 σ9 h9 _
  obtain ⟨rfl, rfl⟩ := h9
  refine rx_aload_n 750 dL_law_750 2 rfl ?_
  refine rx_aload_n 751 dL_law_751 0 rfl ?_
  refine rx_iload_n 752 dL_law_752 3 rfl ?_
  refine rx_iconst 753 (v := 1) dL_law_753 (by decide) ?_
  refine rx_iadd 754 dL_law_754 ?_
  refine rx_sld 755 dL_law_755 (hi 1 (by decide)) ?_
  refine rx_aload_n 756 dL_law_756 0 rfl ?_
  refine rx_iload_n 757 dL_law_757 3 rfl ?_
  refine rx_iconst 758 (v := 2) dL_law_758 (by decide) ?_
  refine rx_iadd 759 dL_law_759 ?_
  refine rx_sld 760 dL_law_760 (hi 2 (by decide)) ?_
  refine rx_callV 761 11 [.int (xs ((nI j) + 1).toNatClampNeg), .int (xs ((nI j) + 2).toNatClampNeg)] dL_law_761 caX11_change lL_103 inX11_change slX11_change rfl ly_243 ⟨_, rfl, rfl⟩ rln_243 naX11_change (Nat.le_of_ble_eq_true rfl) (Nat.le_of_ble_eq_true rfl) (by decide) (Nat.le_refl _) (Nat.le_refl _) (wX11_change (xs ((nI j) + 1).toNatClampNeg) (xs ((nI j) + 2).toNatClampNeg) μ h2) ?_
  intro r9 σ9 h9 _
  obtain ⟨rfl, rfl⟩ := h9
  refine rx_icmp_eq 764 1368 dL_law_764 (by decide) (fun _ => ?_) (fun c3 => absurd rfl c3)
  exact hcont _ hI
def st_payer (Inv : Mem → Prop) : Prop := ∀ (μ : Mem) (a1 : Int32), Inv μ → ∃ (r : Int32) (μ1 : Mem) (μ2 : Mem), (fX10_payer a1 μ) = some (r, μ1) ∧ (fX11_payer a1 μ1) = some (r, μ2) ∧ Inv μ2
set_option maxRecDepth 100000 in
theorem lc_payer {Inv : Mem → Prop} (hst : st_payer Inv) {Ls j : Nat} {xs : Nat → Int32} (hi : ∀ c : Nat, c < 6 → inb (nI j + nI c) Ls) {μ : Mem} (hI : Inv μ) (hcont : ∀ μ2, Inv μ2 → RX (PX Ls xs) mL 1000 0 NF 1368 (LL j) [] (μ2, Rf0, NF) QL) : RX (PX Ls xs) mL 1000 0 NF 769 (LL j) [] (μ, Rf0, NF) QL := by
  refine rx_aload_n 769 dL_law_769 1 rfl ?_
  refine rx_aload_n 770 dL_law_770 0 rfl ?_
  refine rx_iload_n 771 dL_law_771 3 rfl ?_
  refine rx_iconst 772 (v := 1) dL_law_772 (by decide) ?_
  refine rx_iadd 773 dL_law_773 ?_
  refine rx_sld 774 dL_law_774 (hi 1 (by decide)) ?_
  obtain ⟨r, μ1, μ2, h1, h2, hI⟩ := hst μ (xs ((nI j) + 1).toNatClampNeg) hI
  refine rx_callV 775 10 [.int (xs ((nI j) + 1).toNatClampNeg)] dL_law_775 caX10_payer lL_104 inX10_payer slX10_payer rfl ly_0 ⟨_, rfl, rfl⟩ rln_0 naX10_payer (Nat.le_of_ble_eq_true rfl) (Nat.le_of_ble_eq_true rfl) (by decide) (Nat.le_refl _) (Nat.le_refl _) (wX10_payer (xs ((nI j) + 1).toNatClampNeg) μ h1) ?_
  intro r9 σ9 h9 _
  obtain ⟨rfl, rfl⟩ := h9
  refine rx_aload_n 778 dL_law_778 2 rfl ?_
  refine rx_aload_n 779 dL_law_779 0 rfl ?_
  refine rx_iload_n 780 dL_law_780 3 rfl ?_
  refine rx_iconst 781 (v := 1) dL_law_781 (by decide) ?_
  refine rx_iadd 782 dL_law_782 ?_
  refine rx_sld 783 dL_law_783 (hi 1 (by decide)) ?_
  refine rx_callV 784 11 [.int (xs ((nI j) + 1).toNatClampNeg)] dL_law_784 caX11_payer lL_107 inX11_payer slX11_payer rfl ly_243 ⟨_, rfl, rfl⟩ rln_243 naX11_payer (Nat.le_of_ble_eq_true rfl) (Nat.le_of_ble_eq_true rfl) (by decide) (Nat.le_refl _) (Nat.le_refl _) (wX11_payer (xs ((nI j) + 1).toNatClampNeg) μ1 h2) ?_
  intro r9 σ9 h9 _
  obtain ⟨rfl, rfl⟩ := h9
  refine rx_icmp_eq 787 1368 dL_law_787 (by decide) (fun _ => ?_) (fun c3 => absurd rfl c3)
  exact hcont _ hI
def st_idle (Inv : Mem → Prop) : Prop := ∀ (μ : Mem) , Inv μ → ∃ (r : Int32) (μ2 : Mem), (fX10_idle μ) = some r ∧ (fX11_idle μ) = some (r, μ2) ∧ Inv μ2
set_option maxRecDepth 100000 in
theorem lc_idle {Inv : Mem → Prop} (hst : st_idle Inv) {Ls j : Nat} {xs : Nat → Int32} (hi : ∀ c : Nat, c < 6 → inb (nI j + nI c) Ls) {μ : Mem} (hI : Inv μ) (hcont : ∀ μ2, Inv μ2 → RX (PX Ls xs) mL 1000 0 NF 1368 (LL j) [] (μ2, Rf0, NF) QL) : RX (PX Ls xs) mL 1000 0 NF 792 (LL j) [] (μ, Rf0, NF) QL := by
  refine rx_aload_n 792 dL_law_792 1 rfl ?_
  obtain ⟨r, μ2, h1, h2, hI⟩ := hst μ  hI
  refine rx_callV 793 10 [] dL_law_793 caX10_idle lL_108 inX10_idle slX10_idle rfl ly_0 ⟨_, rfl, rfl⟩ rln_0 naX10_idle (Nat.le_of_ble_eq_true rfl) (Nat.le_of_ble_eq_true rfl) (by decide) (Nat.le_refl _) (Nat.le_refl _) (wX10_idle μ h1) ?_
  intro r9 σ9 h9 _
  obtain ⟨rfl, rfl⟩ := h9
  refine rx_aload_n 796 dL_law_796 2 rfl ?_
  refine rx_callV 797 11 [] dL_law_797 caX11_idle lL_111 inX11_idle slX11_idle rfl ly_243 ⟨_, rfl, rfl⟩ rln_243 naX11_idle (Nat.le_of_ble_eq_true rfl) (Nat.le_of_ble_eq_true rfl) (by decide) (Nat.le_refl _) (Nat.le_refl _) (wX11_idle μ h2) ?_
  intro r9 σ9 h9 _
  obtain ⟨rfl, rfl⟩ := h9
  refine rx_icmp_eq 800 1368 dL_law_800 (by decide) (fun _ => ?_) (fun c3 => absurd rfl c3)
  exact hcont _ hI
def st_used (Inv : Mem → Prop) : Prop := ∀ (μ : Mem) (a1 : Int32) (a2 : Int32), Inv μ → ∃ (r : Int32) (μ1 : Mem) (μ2 : Mem), (fX10_used a1 a2 μ) = some (r, μ1) ∧ (fX11_used a1 a2 μ1) = some (r, μ2) ∧ Inv μ2
set_option maxRecDepth 100000 in
theorem lc_used {Inv : Mem → Prop} (hst : st_used Inv) {Ls j : Nat} {xs : Nat → Int32} (hi : ∀ c : Nat, c < 6 → inb (nI j + nI c) Ls) {μ : Mem} (hI : Inv μ) (hcont : ∀ μ2, Inv μ2 → RX (PX Ls xs) mL 1000 0 NF 1368 (LL j) [] (μ2, Rf0, NF) QL) : RX (PX Ls xs) mL 1000 0 NF 805 (LL j) [] (μ, Rf0, NF) QL := by
  refine rx_aload_n 805 dL_law_805 1 rfl ?_
  refine rx_aload_n 806 dL_law_806 0 rfl ?_
  refine rx_iload_n 807 dL_law_807 3 rfl ?_
  refine rx_iconst 808 (v := 1) dL_law_808 (by decide) ?_
  refine rx_iadd 809 dL_law_809 ?_
  refine rx_sld 810 dL_law_810 (hi 1 (by decide)) ?_
  refine rx_aload_n 811 dL_law_811 0 rfl ?_
  refine rx_iload_n 812 dL_law_812 3 rfl ?_
  refine rx_iconst 813 (v := 2) dL_law_813 (by decide) ?_
  refine rx_iadd 814 dL_law_814 ?_
  refine rx_sld 815 dL_law_815 (hi 2 (by decide)) ?_
  obtain ⟨r, μ1, μ2, h1, h2, hI⟩ := hst μ (xs ((nI j) + 1).toNatClampNeg) (xs ((nI j) + 2).toNatClampNeg) hI
  refine rx_callV 816 10 [.int (xs ((nI j) + 1).toNatClampNeg), .int (xs ((nI j) + 2).toNatClampNeg)] dL_law_816 caX10_used lL_112 inX10_used slX10_used rfl ly_0 ⟨_, rfl, rfl⟩ rln_0 naX10_used (Nat.le_of_ble_eq_true rfl) (Nat.le_of_ble_eq_true rfl) (by decide) (Nat.le_refl _) (Nat.le_refl _) (wX10_used (xs ((nI j) + 1).toNatClampNeg) (xs ((nI j) + 2).toNatClampNeg) μ h1) ?_
  intro r9 σ9 h9 _
  obtain ⟨rfl, rfl⟩ := h9
  refine rx_aload_n 819 dL_law_819 2 rfl ?_
  refine rx_aload_n 820 dL_law_820 0 rfl ?_
  refine rx_iload_n 821 dL_law_821 3 rfl ?_
  refine rx_iconst 822 (v := 1) dL_law_822 (by decide) ?_
  refine rx_iadd 823 dL_law_823 ?_
  refine rx_sld 824 dL_law_824 (hi 1 (by decide)) ?_
  refine rx_aload_n 825 dL_law_825 0 rfl ?_
  refine rx_iload_n 826 dL_law_826 3 rfl ?_
  refine rx_iconst 827 (v := 2) dL_law_827 (by decide) ?_
  refine rx_iadd 828 dL_law_828 ?_
  refine rx_sld 829 dL_law_829 (hi 2 (by decide)) ?_
  refine rx_callV 830 11 [.int (xs ((nI j) + 1).toNatClampNeg), .int (xs ((nI j) + 2).toNatClampNeg)] dL_law_830 caX11_used lL_115 inX11_used slX11_used rfl ly_243 ⟨_, rfl, rfl⟩ rln_243 naX11_used (Nat.le_of_ble_eq_true rfl) (Nat.le_of_ble_eq_true rfl) (by decide) (Nat.le_refl _) (Nat.le_refl _) (wX11_used (xs ((nI j) + 1).toNatClampNeg) (xs ((nI j) + 2).toNatClampNeg) μ1 h2) ?_
  intro r9 σ9 h9 _
  obtain ⟨rfl, rfl⟩ := h9
  refine rx_icmp_eq 833 1368 dL_law_833 (by decide) (fun _ => ?_) (fun c3 => absurd rfl c3)
  exact hcont _ hI
def st_first (Inv : Mem → Prop) : Prop := ∀ (μ : Mem) (a1 : Int32), Inv μ → ∃ (r : Int32) (μ1 : Mem) (μ2 : Mem), (fX10_first a1 μ) = some (r, μ1) ∧ (fX11_first a1 μ1) = some (r, μ2) ∧ Inv μ2
set_option maxRecDepth 100000 in
theorem lc_first {Inv : Mem → Prop} (hst : st_first Inv) {Ls j : Nat} {xs : Nat → Int32} (hi : ∀ c : Nat, c < 6 → inb (nI j + nI c) Ls) {μ : Mem} (hI : Inv μ) (hcont : ∀ μ2, Inv μ2 → RX (PX Ls xs) mL 1000 0 NF 1368 (LL j) [] (μ2, Rf0, NF) QL) : RX (PX Ls xs) mL 1000 0 NF 838 (LL j) [] (μ, Rf0, NF) QL := by
  refine rx_aload_n 838 dL_law_838 1 rfl ?_
  refine rx_aload_n 839 dL_law_839 0 rfl ?_
  refine rx_iload_n 840 dL_law_840 3 rfl ?_
  refine rx_iconst 841 (v := 1) dL_law_841 (by decide) ?_
  refine rx_iadd 842 dL_law_842 ?_
  refine rx_sld 843 dL_law_843 (hi 1 (by decide)) ?_
  obtain ⟨r, μ1, μ2, h1, h2, hI⟩ := hst μ (xs ((nI j) + 1).toNatClampNeg) hI
  refine rx_callV 844 10 [.int (xs ((nI j) + 1).toNatClampNeg)] dL_law_844 caX10_first lL_116 inX10_first slX10_first rfl ly_0 ⟨_, rfl, rfl⟩ rln_0 naX10_first (Nat.le_of_ble_eq_true rfl) (Nat.le_of_ble_eq_true rfl) (by decide) (Nat.le_refl _) (Nat.le_refl _) (wX10_first (xs ((nI j) + 1).toNatClampNeg) μ h1) ?_
  intro r9 σ9 h9 _
  obtain ⟨rfl, rfl⟩ := h9
  refine rx_aload_n 847 dL_law_847 2 rfl ?_
  refine rx_aload_n 848 dL_law_848 0 rfl ?_
  refine rx_iload_n 849 dL_law_849 3 rfl ?_
  refine rx_iconst 850 (v := 1) dL_law_850 (by decide) ?_
  refine rx_iadd 851 dL_law_851 ?_
  refine rx_sld 852 dL_law_852 (hi 1 (by decide)) ?_
  refine rx_callV 853 11 [.int (xs ((nI j) + 1).toNatClampNeg)] dL_law_853 caX11_first lL_119 inX11_first slX11_first rfl ly_243 ⟨_, rfl, rfl⟩ rln_243 naX11_first (Nat.le_of_ble_eq_true rfl) (Nat.le_of_ble_eq_true rfl) (by decide) (Nat.le_refl _) (Nat.le_refl _) (wX11_first (xs ((nI j) + 1).toNatClampNeg) μ1 h2) ?_
  intro r9 σ9 h9 _
  obtain ⟨rfl, rfl⟩ := h9
  refine rx_icmp_eq 856 1368 dL_law_856 (by decide) (fun _ => ?_) (fun c3 => absurd rfl c3)
  exact hcont _ hI
def st_gap (Inv : Mem → Prop) : Prop := ∀ (μ : Mem) (a1 : Int32) (a2 : Int32), Inv μ → ∃ (r : Int32) (μ2 : Mem), (fX10_gap a1 a2 μ) = some r ∧ (fX11_gap a1 a2 μ) = some (r, μ2) ∧ Inv μ2
set_option maxRecDepth 100000 in
theorem lc_gap {Inv : Mem → Prop} (hst : st_gap Inv) {Ls j : Nat} {xs : Nat → Int32} (hi : ∀ c : Nat, c < 6 → inb (nI j + nI c) Ls) {μ : Mem} (hI : Inv μ) (hcont : ∀ μ2, Inv μ2 → RX (PX Ls xs) mL 1000 0 NF 1368 (LL j) [] (μ2, Rf0, NF) QL) : RX (PX Ls xs) mL 1000 0 NF 861 (LL j) [] (μ, Rf0, NF) QL := by
  refine rx_aload_n 861 dL_law_861 1 rfl ?_
  refine rx_aload_n 862 dL_law_862 0 rfl ?_
  refine rx_iload_n 863 dL_law_863 3 rfl ?_
  refine rx_iconst 864 (v := 1) dL_law_864 (by decide) ?_
  refine rx_iadd 865 dL_law_865 ?_
  refine rx_sld 866 dL_law_866 (hi 1 (by decide)) ?_
  refine rx_aload_n 867 dL_law_867 0 rfl ?_
  refine rx_iload_n 868 dL_law_868 3 rfl ?_
  refine rx_iconst 869 (v := 2) dL_law_869 (by decide) ?_
  refine rx_iadd 870 dL_law_870 ?_
  refine rx_sld 871 dL_law_871 (hi 2 (by decide)) ?_
  obtain ⟨r, μ2, h1, h2, hI⟩ := hst μ (xs ((nI j) + 1).toNatClampNeg) (xs ((nI j) + 2).toNatClampNeg) hI
  refine rx_callV 872 10 [.int (xs ((nI j) + 1).toNatClampNeg), .int (xs ((nI j) + 2).toNatClampNeg)] dL_law_872 caX10_gap lL_120 inX10_gap slX10_gap rfl ly_0 ⟨_, rfl, rfl⟩ rln_0 naX10_gap (Nat.le_of_ble_eq_true rfl) (Nat.le_of_ble_eq_true rfl) (by decide) (Nat.le_refl _) (Nat.le_refl _) (wX10_gap (xs ((nI j) + 1).toNatClampNeg) (xs ((nI j) + 2).toNatClampNeg) μ h1) ?_
  intro r9 σ9 h9 _
  obtain ⟨rfl, rfl⟩ := h9
  refine rx_aload_n 875 dL_law_875 2 rfl ?_
  refine rx_aload_n 876 dL_law_876 0 rfl ?_
  refine rx_iload_n 877 dL_law_877 3 rfl ?_
  refine rx_iconst 878 (v := 1) dL_law_878 (by decide) ?_
  refine rx_iadd 879 dL_law_879 ?_
  refine rx_sld 880 dL_law_880 (hi 1 (by decide)) ?_
  refine rx_aload_n 881 dL_law_881 0 rfl ?_
  refine rx_iload_n 882 dL_law_882 3 rfl ?_
  refine rx_iconst 883 (v := 2) dL_law_883 (by decide) ?_
  refine rx_iadd 884 dL_law_884 ?_
  refine rx_sld 885 dL_law_885 (hi 2 (by decide)) ?_
  refine rx_callV 886 11 [.int (xs ((nI j) + 1).toNatClampNeg), .int (xs ((nI j) + 2).toNatClampNeg)] dL_law_886 caX11_gap lL_123 inX11_gap slX11_gap rfl ly_243 ⟨_, rfl, rfl⟩ rln_243 naX11_gap (Nat.le_of_ble_eq_true rfl) (Nat.le_of_ble_eq_true rfl) (by decide) (Nat.le_refl _) (Nat.le_refl _) (wX11_gap (xs ((nI j) + 1).toNatClampNeg) (xs ((nI j) + 2).toNatClampNeg) μ h2) ?_
  intro r9 σ9 h9 _
  obtain ⟨rfl, rfl⟩ := h9
  refine rx_icmp_eq 889 1368 dL_law_889 (by decide) (fun _ => ?_) (fun c3 => absurd rfl c3)
  exact hcont _ hI
def st_room (Inv : Mem → Prop) : Prop := ∀ (μ : Mem) (a1 : Int32), Inv μ → ∃ (r : Int32) (μ2 : Mem), (fX10_room a1 μ) = some r ∧ (fX11_room a1 μ) = some (r, μ2) ∧ Inv μ2
set_option maxRecDepth 100000 in
theorem lc_room {Inv : Mem → Prop} (hst : st_room Inv) {Ls j : Nat} {xs : Nat → Int32} (hi : ∀ c : Nat, c < 6 → inb (nI j + nI c) Ls) {μ : Mem} (hI : Inv μ) (hcont : ∀ μ2, Inv μ2 → RX (PX Ls xs) mL 1000 0 NF 1368 (LL j) [] (μ2, Rf0, NF) QL) : RX (PX Ls xs) mL 1000 0 NF 894 (LL j) [] (μ, Rf0, NF) QL := by
  refine rx_aload_n 894 dL_law_894 1 rfl ?_
  refine rx_aload_n 895 dL_law_895 0 rfl ?_
  refine rx_iload_n 896 dL_law_896 3 rfl ?_
  refine rx_iconst 897 (v := 1) dL_law_897 (by decide) ?_
  refine rx_iadd 898 dL_law_898 ?_
  refine rx_sld 899 dL_law_899 (hi 1 (by decide)) ?_
  obtain ⟨r, μ2, h1, h2, hI⟩ := hst μ (xs ((nI j) + 1).toNatClampNeg) hI
  refine rx_callV 900 10 [.int (xs ((nI j) + 1).toNatClampNeg)] dL_law_900 caX10_room lL_124 inX10_room slX10_room rfl ly_0 ⟨_, rfl, rfl⟩ rln_0 naX10_room (Nat.le_of_ble_eq_true rfl) (Nat.le_of_ble_eq_true rfl) (by decide) (Nat.le_refl _) (Nat.le_refl _) (wX10_room (xs ((nI j) + 1).toNatClampNeg) μ h1) ?_
  intro r9 σ9 h9 _
  obtain ⟨rfl, rfl⟩ := h9
  refine rx_aload_n 903 dL_law_903 2 rfl ?_
  refine rx_aload_n 904 dL_law_904 0 rfl ?_
  refine rx_iload_n 905 dL_law_905 3 rfl ?_
  refine rx_iconst 906 (v := 1) dL_law_906 (by decide) ?_
  refine rx_iadd 907 dL_law_907 ?_
  refine rx_sld 908 dL_law_908 (hi 1 (by decide)) ?_
  refine rx_callV 909 11 [.int (xs ((nI j) + 1).toNatClampNeg)] dL_law_909 caX11_room lL_127 inX11_room slX11_room rfl ly_243 ⟨_, rfl, rfl⟩ rln_243 naX11_room (Nat.le_of_ble_eq_true rfl) (Nat.le_of_ble_eq_true rfl) (by decide) (Nat.le_refl _) (Nat.le_refl _) (wX11_room (xs ((nI j) + 1).toNatClampNeg) μ h2) ?_
  intro r9 σ9 h9 _
  obtain ⟨rfl, rfl⟩ := h9
  refine rx_icmp_eq 912 1368 dL_law_912 (by decide) (fun _ => ?_) (fun c3 => absurd rfl c3)
  exact hcont _ hI
def st_price (Inv : Mem → Prop) : Prop := ∀ (μ : Mem) (a1 : Int32) (a2 : Int32), Inv μ → ∃ (r : Int32) (μ1 : Mem) (μ2 : Mem), (fX10_price a1 a2 μ) = some (r, μ1) ∧ (fX11_price a1 a2 μ1) = some (r, μ2) ∧ Inv μ2
set_option maxRecDepth 100000 in
theorem lc_price {Inv : Mem → Prop} (hst : st_price Inv) {Ls j : Nat} {xs : Nat → Int32} (hi : ∀ c : Nat, c < 6 → inb (nI j + nI c) Ls) {μ : Mem} (hI : Inv μ) (hcont : ∀ μ2, Inv μ2 → RX (PX Ls xs) mL 1000 0 NF 1368 (LL j) [] (μ2, Rf0, NF) QL) : RX (PX Ls xs) mL 1000 0 NF 917 (LL j) [] (μ, Rf0, NF) QL := by
  refine rx_aload_n 917 dL_law_917 1 rfl ?_
  refine rx_aload_n 918 dL_law_918 0 rfl ?_
  refine rx_iload_n 919 dL_law_919 3 rfl ?_
  refine rx_iconst 920 (v := 1) dL_law_920 (by decide) ?_
  refine rx_iadd 921 dL_law_921 ?_
  refine rx_sld 922 dL_law_922 (hi 1 (by decide)) ?_
  refine rx_aload_n 923 dL_law_923 0 rfl ?_
  refine rx_iload_n 924 dL_law_924 3 rfl ?_
  refine rx_iconst 925 (v := 2) dL_law_925 (by decide) ?_
  refine rx_iadd 926 dL_law_926 ?_
  refine rx_sld 927 dL_law_927 (hi 2 (by decide)) ?_
  obtain ⟨r, μ1, μ2, h1, h2, hI⟩ := hst μ (xs ((nI j) + 1).toNatClampNeg) (xs ((nI j) + 2).toNatClampNeg) hI
  refine rx_callV 928 10 [.int (xs ((nI j) + 1).toNatClampNeg), .int (xs ((nI j) + 2).toNatClampNeg)] dL_law_928 caX10_price lL_128 inX10_price slX10_price rfl ly_0 ⟨_, rfl, rfl⟩ rln_0 naX10_price (Nat.le_of_ble_eq_true rfl) (Nat.le_of_ble_eq_true rfl) (by decide) (Nat.le_refl _) (Nat.le_refl _) (wX10_price (xs ((nI j) + 1).toNatClampNeg) (xs ((nI j) + 2).toNatClampNeg) μ h1) ?_
  intro r9 σ9 h9 _
  obtain ⟨rfl, rfl⟩ := h9
  refine rx_aload_n 931 dL_law_931 2 rfl ?_
  refine rx_aload_n 932 dL_law_932 0 rfl ?_
  refine rx_iload_n 933 dL_law_933 3 rfl ?_
  refine rx_iconst 934 (v := 1) dL_law_934 (by decide) ?_
  refine rx_iadd 935 dL_law_935 ?_
  refine rx_sld 936 dL_law_936 (hi 1 (by decide)) ?_
  refine rx_aload_n 937 dL_law_937 0 rfl ?_
  refine rx_iload_n 938 dL_law_938 3 rfl ?_
  refine rx_iconst 939 (v := 2) dL_law_939 (by decide) ?_
  refine rx_iadd 940 dL_law_940 ?_
  refine rx_sld 941 dL_law_941 (hi 2 (by decide)) ?_
  refine rx_callV 942 11 [.int (xs ((nI j) + 1).toNatClampNeg), .int (xs ((nI j) + 2).toNatClampNeg)] dL_law_942 caX11_price lL_131 inX11_price slX11_price rfl ly_243 ⟨_, rfl, rfl⟩ rln_243 naX11_price (Nat.le_of_ble_eq_true rfl) (Nat.le_of_ble_eq_true rfl) (by decide) (Nat.le_refl _) (Nat.le_refl _) (wX11_price (xs ((nI j) + 1).toNatClampNeg) (xs ((nI j) + 2).toNatClampNeg) μ1 h2) ?_
  intro r9 σ9 h9 _
  obtain ⟨rfl, rfl⟩ := h9
  refine rx_icmp_eq 945 1368 dL_law_945 (by decide) (fun _ => ?_) (fun c3 => absurd rfl c3)
  exact hcont _ hI
def st_best (Inv : Mem → Prop) : Prop := ∀ (μ : Mem) (a1 : Int32) (a2 : Int32) (a3 : Int32), Inv μ → ∃ (r : Int32) (μ1 : Mem) (μ2 : Mem), (fX10_best a1 a2 a3 μ) = some (r, μ1) ∧ (fX11_best a1 a2 a3 μ1) = some (r, μ2) ∧ Inv μ2
set_option maxRecDepth 100000 in
theorem lc_best {Inv : Mem → Prop} (hst : st_best Inv) {Ls j : Nat} {xs : Nat → Int32} (hi : ∀ c : Nat, c < 6 → inb (nI j + nI c) Ls) {μ : Mem} (hI : Inv μ) (hcont : ∀ μ2, Inv μ2 → RX (PX Ls xs) mL 1000 0 NF 1368 (LL j) [] (μ2, Rf0, NF) QL) : RX (PX Ls xs) mL 1000 0 NF 950 (LL j) [] (μ, Rf0, NF) QL := by
  refine rx_aload_n 950 dL_law_950 1 rfl ?_
  refine rx_aload_n 951 dL_law_951 0 rfl ?_
  refine rx_iload_n 952 dL_law_952 3 rfl ?_
  refine rx_iconst 953 (v := 1) dL_law_953 (by decide) ?_
  refine rx_iadd 954 dL_law_954 ?_
  refine rx_sld 955 dL_law_955 (hi 1 (by decide)) ?_
  refine rx_aload_n 956 dL_law_956 0 rfl ?_
  refine rx_iload_n 957 dL_law_957 3 rfl ?_
  refine rx_iconst 958 (v := 2) dL_law_958 (by decide) ?_
  refine rx_iadd 959 dL_law_959 ?_
  refine rx_sld 960 dL_law_960 (hi 2 (by decide)) ?_
  refine rx_aload_n 961 dL_law_961 0 rfl ?_
  refine rx_iload_n 962 dL_law_962 3 rfl ?_
  refine rx_iconst 963 (v := 3) dL_law_963 (by decide) ?_
  refine rx_iadd 964 dL_law_964 ?_
  refine rx_sld 965 dL_law_965 (hi 3 (by decide)) ?_
  obtain ⟨r, μ1, μ2, h1, h2, hI⟩ := hst μ (xs ((nI j) + 1).toNatClampNeg) (xs ((nI j) + 2).toNatClampNeg) (xs ((nI j) + 3).toNatClampNeg) hI
  refine rx_callV 966 10 [.int (xs ((nI j) + 1).toNatClampNeg), .int (xs ((nI j) + 2).toNatClampNeg), .int (xs ((nI j) + 3).toNatClampNeg)] dL_law_966 caX10_best lL_132 inX10_best slX10_best rfl ly_0 ⟨_, rfl, rfl⟩ rln_0 naX10_best (Nat.le_of_ble_eq_true rfl) (Nat.le_of_ble_eq_true rfl) (by decide) (Nat.le_refl _) (Nat.le_refl _) (wX10_best (xs ((nI j) + 1).toNatClampNeg) (xs ((nI j) + 2).toNatClampNeg) (xs ((nI j) + 3).toNatClampNeg) μ h1) ?_
  intro r9 σ9 h9 _
  obtain ⟨rfl, rfl⟩ := h9
  refine rx_aload_n 969 dL_law_969 2 rfl ?_
  refine rx_aload_n 970 dL_law_970 0 rfl ?_
  refine rx_iload_n 971 dL_law_971 3 rfl ?_
  refine rx_iconst 972 (v := 1) dL_law_972 (by decide) ?_
  refine rx_iadd 973 dL_law_973 ?_
  refine rx_sld 974 dL_law_974 (hi 1 (by decide)) ?_
  refine rx_aload_n 975 dL_law_975 0 rfl ?_
  refine rx_iload_n 976 dL_law_976 3 rfl ?_
  refine rx_iconst 977 (v := 2) dL_law_977 (by decide) ?_
  refine rx_iadd 978 dL_law_978 ?_
  refine rx_sld 979 dL_law_979 (hi 2 (by decide)) ?_
  refine rx_aload_n 980 dL_law_980 0 rfl ?_
  refine rx_iload_n 981 dL_law_981 3 rfl ?_
  refine rx_iconst 982 (v := 3) dL_law_982 (by decide) ?_
  refine rx_iadd 983 dL_law_983 ?_
  refine rx_sld 984 dL_law_984 (hi 3 (by decide)) ?_
  refine rx_callV 985 11 [.int (xs ((nI j) + 1).toNatClampNeg), .int (xs ((nI j) + 2).toNatClampNeg), .int (xs ((nI j) + 3).toNatClampNeg)] dL_law_985 caX11_best lL_136 inX11_best slX11_best rfl ly_243 ⟨_, rfl, rfl⟩ rln_243 naX11_best (Nat.le_of_ble_eq_true rfl) (Nat.le_of_ble_eq_true rfl) (by decide) (Nat.le_refl _) (Nat.le_refl _) (wX11_best (xs ((nI j) + 1).toNatClampNeg) (xs ((nI j) + 2).toNatClampNeg) (xs ((nI j) + 3).toNatClampNeg) μ1 h2) ?_
  intro r9 σ9 h9 _
  obtain ⟨rfl, rfl⟩ := h9
  refine rx_icmp_eq 988 1368 dL_law_988 (by decide) (fun _ => ?_) (fun c3 => absurd rfl c3)
  exact hcont _ hI
def st_weary (Inv : Mem → Prop) : Prop := ∀ (μ : Mem) (a1 : Int32), Inv μ → ∃ (r : Int32) (μ1 : Mem) (μ2 : Mem), (fX10_weary a1 μ) = some (r, μ1) ∧ (fX11_weary a1 μ1) = some (r, μ2) ∧ Inv μ2
set_option maxRecDepth 100000 in
theorem lc_weary {Inv : Mem → Prop} (hst : st_weary Inv) {Ls j : Nat} {xs : Nat → Int32} (hi : ∀ c : Nat, c < 6 → inb (nI j + nI c) Ls) {μ : Mem} (hI : Inv μ) (hcont : ∀ μ2, Inv μ2 → RX (PX Ls xs) mL 1000 0 NF 1368 (LL j) [] (μ2, Rf0, NF) QL) : RX (PX Ls xs) mL 1000 0 NF 993 (LL j) [] (μ, Rf0, NF) QL := by
  refine rx_aload_n 993 dL_law_993 1 rfl ?_
  refine rx_aload_n 994 dL_law_994 0 rfl ?_
  refine rx_iload_n 995 dL_law_995 3 rfl ?_
  refine rx_iconst 996 (v := 1) dL_law_996 (by decide) ?_
  refine rx_iadd 997 dL_law_997 ?_
  refine rx_sld 998 dL_law_998 (hi 1 (by decide)) ?_
  obtain ⟨r, μ1, μ2, h1, h2, hI⟩ := hst μ (xs ((nI j) + 1).toNatClampNeg) hI
  refine rx_callV 999 10 [.int (xs ((nI j) + 1).toNatClampNeg)] dL_law_999 caX10_weary lL_137 inX10_weary slX10_weary rfl ly_0 ⟨_, rfl, rfl⟩ rln_0 naX10_weary (Nat.le_of_ble_eq_true rfl) (Nat.le_of_ble_eq_true rfl) (by decide) (Nat.le_refl _) (Nat.le_refl _) (wX10_weary (xs ((nI j) + 1).toNatClampNeg) μ h1) ?_
  intro r9 σ9 h9 _
  obtain ⟨rfl, rfl⟩ := h9
  refine rx_aload_n 1002 dL_law_1002 2 rfl ?_
  refine rx_aload_n 1003 dL_law_1003 0 rfl ?_
  refine rx_iload_n 1004 dL_law_1004 3 rfl ?_
  refine rx_iconst 1005 (v := 1) dL_law_1005 (by decide) ?_
  refine rx_iadd 1006 dL_law_1006 ?_
  refine rx_sld 1007 dL_law_1007 (hi 1 (by decide)) ?_
  refine rx_callV 1008 11 [.int (xs ((nI j) + 1).toNatClampNeg)] dL_law_1008 caX11_weary lL_140 inX11_weary slX11_weary rfl ly_243 ⟨_, rfl, rfl⟩ rln_243 naX11_weary (Nat.le_of_ble_eq_true rfl) (Nat.le_of_ble_eq_true rfl) (by decide) (Nat.le_refl _) (Nat.le_refl _) (wX11_weary (xs ((nI j) + 1).toNatClampNeg) μ1 h2) ?_
  intro r9 σ9 h9 _
  obtain ⟨rfl, rfl⟩ := h9
  refine rx_icmp_eq 1011 1368 dL_law_1011 (by decide) (fun _ => ?_) (fun c3 => absurd rfl c3)
  exact hcont _ hI
def st_earned (Inv : Mem → Prop) : Prop := ∀ (μ : Mem) (a1 : Int32), Inv μ → ∃ (r : Int32) (μ1 : Mem) (μ2 : Mem), (fX10_earned a1 μ) = some (r, μ1) ∧ (fX11_earned a1 μ1) = some (r, μ2) ∧ Inv μ2
set_option maxRecDepth 100000 in
theorem lc_earned {Inv : Mem → Prop} (hst : st_earned Inv) {Ls j : Nat} {xs : Nat → Int32} (hi : ∀ c : Nat, c < 6 → inb (nI j + nI c) Ls) {μ : Mem} (hI : Inv μ) (hcont : ∀ μ2, Inv μ2 → RX (PX Ls xs) mL 1000 0 NF 1368 (LL j) [] (μ2, Rf0, NF) QL) : RX (PX Ls xs) mL 1000 0 NF 1016 (LL j) [] (μ, Rf0, NF) QL := by
  refine rx_aload_n 1016 dL_law_1016 1 rfl ?_
  refine rx_aload_n 1017 dL_law_1017 0 rfl ?_
  refine rx_iload_n 1018 dL_law_1018 3 rfl ?_
  refine rx_iconst 1019 (v := 1) dL_law_1019 (by decide) ?_
  refine rx_iadd 1020 dL_law_1020 ?_
  refine rx_sld 1021 dL_law_1021 (hi 1 (by decide)) ?_
  obtain ⟨r, μ1, μ2, h1, h2, hI⟩ := hst μ (xs ((nI j) + 1).toNatClampNeg) hI
  refine rx_callV 1022 10 [.int (xs ((nI j) + 1).toNatClampNeg)] dL_law_1022 caX10_earned lL_141 inX10_earned slX10_earned rfl ly_0 ⟨_, rfl, rfl⟩ rln_0 naX10_earned (Nat.le_of_ble_eq_true rfl) (Nat.le_of_ble_eq_true rfl) (by decide) (Nat.le_refl _) (Nat.le_refl _) (wX10_earned (xs ((nI j) + 1).toNatClampNeg) μ h1) ?_
  intro r9 σ9 h9 _
  obtain ⟨rfl, rfl⟩ := h9
  refine rx_aload_n 1025 dL_law_1025 2 rfl ?_
  refine rx_aload_n 1026 dL_law_1026 0 rfl ?_
  refine rx_iload_n 1027 dL_law_1027 3 rfl ?_
  refine rx_iconst 1028 (v := 1) dL_law_1028 (by decide) ?_
  refine rx_iadd 1029 dL_law_1029 ?_
  refine rx_sld 1030 dL_law_1030 (hi 1 (by decide)) ?_
  refine rx_callV 1031 11 [.int (xs ((nI j) + 1).toNatClampNeg)] dL_law_1031 caX11_earned lL_144 inX11_earned slX11_earned rfl ly_243 ⟨_, rfl, rfl⟩ rln_243 naX11_earned (Nat.le_of_ble_eq_true rfl) (Nat.le_of_ble_eq_true rfl) (by decide) (Nat.le_refl _) (Nat.le_refl _) (wX11_earned (xs ((nI j) + 1).toNatClampNeg) μ1 h2) ?_
  intro r9 σ9 h9 _
  obtain ⟨rfl, rfl⟩ := h9
  refine rx_icmp_eq 1034 1368 dL_law_1034 (by decide) (fun _ => ?_) (fun c3 => absurd rfl c3)
  exact hcont _ hI
def st_rivals (Inv : Mem → Prop) : Prop := ∀ (μ : Mem) (a1 : Int32), Inv μ → ∃ (r : Int32), (fX10_rivals a1 μ) = some r ∧ (fX11_rivals a1 μ) = some r
set_option maxRecDepth 100000 in
theorem lc_rivals {Inv : Mem → Prop} (hst : st_rivals Inv) {Ls j : Nat} {xs : Nat → Int32} (hi : ∀ c : Nat, c < 6 → inb (nI j + nI c) Ls) {μ : Mem} (hI : Inv μ) (hcont : ∀ μ2, Inv μ2 → RX (PX Ls xs) mL 1000 0 NF 1368 (LL j) [] (μ2, Rf0, NF) QL) : RX (PX Ls xs) mL 1000 0 NF 1039 (LL j) [] (μ, Rf0, NF) QL := by
  refine rx_aload_n 1039 dL_law_1039 1 rfl ?_
  refine rx_aload_n 1040 dL_law_1040 0 rfl ?_
  refine rx_iload_n 1041 dL_law_1041 3 rfl ?_
  refine rx_iconst 1042 (v := 1) dL_law_1042 (by decide) ?_
  refine rx_iadd 1043 dL_law_1043 ?_
  refine rx_sld 1044 dL_law_1044 (hi 1 (by decide)) ?_
  obtain ⟨r, h1, h2⟩ := hst μ (xs ((nI j) + 1).toNatClampNeg) hI
  refine rx_callV 1045 10 [.int (xs ((nI j) + 1).toNatClampNeg)] dL_law_1045 caX10_rivals lL_145 inX10_rivals slX10_rivals rfl ly_0 ⟨_, rfl, rfl⟩ rln_0 naX10_rivals (Nat.le_of_ble_eq_true rfl) (Nat.le_of_ble_eq_true rfl) (by decide) (Nat.le_refl _) (Nat.le_refl _) (wX10_rivals (xs ((nI j) + 1).toNatClampNeg) μ h1) ?_
  intro r9 σ9 h9 _
  obtain ⟨rfl, rfl⟩ := h9
  refine rx_aload_n 1048 dL_law_1048 2 rfl ?_
  refine rx_aload_n 1049 dL_law_1049 0 rfl ?_
  refine rx_iload_n 1050 dL_law_1050 3 rfl ?_
  refine rx_iconst 1051 (v := 1) dL_law_1051 (by decide) ?_
  refine rx_iadd 1052 dL_law_1052 ?_
  refine rx_sld 1053 dL_law_1053 (hi 1 (by decide)) ?_
  refine rx_callV 1054 11 [.int (xs ((nI j) + 1).toNatClampNeg)] dL_law_1054 caX11_rivals lL_148 inX11_rivals slX11_rivals rfl ly_243 ⟨_, rfl, rfl⟩ rln_243 naX11_rivals (Nat.le_of_ble_eq_true rfl) (Nat.le_of_ble_eq_true rfl) (by decide) (Nat.le_refl _) (Nat.le_refl _) (wX11_rivals (xs ((nI j) + 1).toNatClampNeg) μ h2) ?_
  intro r9 σ9 h9 _
  obtain ⟨rfl, rfl⟩ := h9
  refine rx_icmp_eq 1057 1368 dL_law_1057 (by decide) (fun _ => ?_) (fun c3 => absurd rfl c3)
  exact hcont _ hI
def st_then (Inv : Mem → Prop) : Prop := ∀ (μ : Mem) (a1 : Int32) (a2 : Int32) (a3 : Int32), Inv μ → ∃ (r : Int32) (μ1 : Mem) (μ2 : Mem), (fX10_then a1 a2 a3 μ) = some (r, μ1) ∧ (fX11_then a1 a2 a3 μ1) = some (r, μ2) ∧ Inv μ2
set_option maxRecDepth 100000 in
theorem lc_then {Inv : Mem → Prop} (hst : st_then Inv) {Ls j : Nat} {xs : Nat → Int32} (hi : ∀ c : Nat, c < 6 → inb (nI j + nI c) Ls) {μ : Mem} (hI : Inv μ) (hcont : ∀ μ2, Inv μ2 → RX (PX Ls xs) mL 1000 0 NF 1368 (LL j) [] (μ2, Rf0, NF) QL) : RX (PX Ls xs) mL 1000 0 NF 1062 (LL j) [] (μ, Rf0, NF) QL := by
  refine rx_aload_n 1062 dL_law_1062 1 rfl ?_
  refine rx_aload_n 1063 dL_law_1063 0 rfl ?_
  refine rx_iload_n 1064 dL_law_1064 3 rfl ?_
  refine rx_iconst 1065 (v := 1) dL_law_1065 (by decide) ?_
  refine rx_iadd 1066 dL_law_1066 ?_
  refine rx_sld 1067 dL_law_1067 (hi 1 (by decide)) ?_
  refine rx_aload_n 1068 dL_law_1068 0 rfl ?_
  refine rx_iload_n 1069 dL_law_1069 3 rfl ?_
  refine rx_iconst 1070 (v := 2) dL_law_1070 (by decide) ?_
  refine rx_iadd 1071 dL_law_1071 ?_
  refine rx_sld 1072 dL_law_1072 (hi 2 (by decide)) ?_
  refine rx_aload_n 1073 dL_law_1073 0 rfl ?_
  refine rx_iload_n 1074 dL_law_1074 3 rfl ?_
  refine rx_iconst 1075 (v := 3) dL_law_1075 (by decide) ?_
  refine rx_iadd 1076 dL_law_1076 ?_
  refine rx_sld 1077 dL_law_1077 (hi 3 (by decide)) ?_
  obtain ⟨r, μ1, μ2, h1, h2, hI⟩ := hst μ (xs ((nI j) + 1).toNatClampNeg) (xs ((nI j) + 2).toNatClampNeg) (xs ((nI j) + 3).toNatClampNeg) hI
  refine rx_callV 1078 10 [.int (xs ((nI j) + 1).toNatClampNeg), .int (xs ((nI j) + 2).toNatClampNeg), .int (xs ((nI j) + 3).toNatClampNeg)] dL_law_1078 caX10_then lL_149 inX10_then slX10_then rfl ly_0 ⟨_, rfl, rfl⟩ rln_0 naX10_then (Nat.le_of_ble_eq_true rfl) (Nat.le_of_ble_eq_true rfl) (by decide) (Nat.le_refl _) (Nat.le_refl _) (wX10_then (xs ((nI j) + 1).toNatClampNeg) (xs ((nI j) + 2).toNatClampNeg) (xs ((nI j) + 3).toNatClampNeg) μ h1) ?_
  intro r9 σ9 h9 _
  obtain ⟨rfl, rfl⟩ := h9
  refine rx_aload_n 1081 dL_law_1081 2 rfl ?_
  refine rx_aload_n 1082 dL_law_1082 0 rfl ?_
  refine rx_iload_n 1083 dL_law_1083 3 rfl ?_
  refine rx_iconst 1084 (v := 1) dL_law_1084 (by decide) ?_
  refine rx_iadd 1085 dL_law_1085 ?_
  refine rx_sld 1086 dL_law_1086 (hi 1 (by decide)) ?_
  refine rx_aload_n 1087 dL_law_1087 0 rfl ?_
  refine rx_iload_n 1088 dL_law_1088 3 rfl ?_
  refine rx_iconst 1089 (v := 2) dL_law_1089 (by decide) ?_
  refine rx_iadd 1090 dL_law_1090 ?_
  refine rx_sld 1091 dL_law_1091 (hi 2 (by decide)) ?_
  refine rx_aload_n 1092 dL_law_1092 0 rfl ?_
  refine rx_iload_n 1093 dL_law_1093 3 rfl ?_
  refine rx_iconst 1094 (v := 3) dL_law_1094 (by decide) ?_
  refine rx_iadd 1095 dL_law_1095 ?_
  refine rx_sld 1096 dL_law_1096 (hi 3 (by decide)) ?_
  refine rx_callV 1097 11 [.int (xs ((nI j) + 1).toNatClampNeg), .int (xs ((nI j) + 2).toNatClampNeg), .int (xs ((nI j) + 3).toNatClampNeg)] dL_law_1097 caX11_then lL_152 inX11_then slX11_then rfl ly_243 ⟨_, rfl, rfl⟩ rln_243 naX11_then (Nat.le_of_ble_eq_true rfl) (Nat.le_of_ble_eq_true rfl) (by decide) (Nat.le_refl _) (Nat.le_refl _) (wX11_then (xs ((nI j) + 1).toNatClampNeg) (xs ((nI j) + 2).toNatClampNeg) (xs ((nI j) + 3).toNatClampNeg) μ1 h2) ?_
  intro r9 σ9 h9 _
  obtain ⟨rfl, rfl⟩ := h9
  refine rx_icmp_eq 1100 1368 dL_law_1100 (by decide) (fun _ => ?_) (fun c3 => absurd rfl c3)
  exact hcont _ hI
def st_wornIn (Inv : Mem → Prop) : Prop := ∀ (μ : Mem) (a1 : Int32) (a2 : Int32), Inv μ → ∃ (r : Int32) (μ1 : Mem) (μ2 : Mem), (fX10_wornIn a1 a2 μ) = some (r, μ1) ∧ (fX11_wornIn a1 a2 μ1) = some (r, μ2) ∧ Inv μ2
set_option maxRecDepth 100000 in
theorem lc_wornIn {Inv : Mem → Prop} (hst : st_wornIn Inv) {Ls j : Nat} {xs : Nat → Int32} (hi : ∀ c : Nat, c < 6 → inb (nI j + nI c) Ls) {μ : Mem} (hI : Inv μ) (hcont : ∀ μ2, Inv μ2 → RX (PX Ls xs) mL 1000 0 NF 1368 (LL j) [] (μ2, Rf0, NF) QL) : RX (PX Ls xs) mL 1000 0 NF 1105 (LL j) [] (μ, Rf0, NF) QL := by
  refine rx_aload_n 1105 dL_law_1105 1 rfl ?_
  refine rx_aload_n 1106 dL_law_1106 0 rfl ?_
  refine rx_iload_n 1107 dL_law_1107 3 rfl ?_
  refine rx_iconst 1108 (v := 1) dL_law_1108 (by decide) ?_
  refine rx_iadd 1109 dL_law_1109 ?_
  refine rx_sld 1110 dL_law_1110 (hi 1 (by decide)) ?_
  refine rx_aload_n 1111 dL_law_1111 0 rfl ?_
  refine rx_iload_n 1112 dL_law_1112 3 rfl ?_
  refine rx_iconst 1113 (v := 2) dL_law_1113 (by decide) ?_
  refine rx_iadd 1114 dL_law_1114 ?_
  refine rx_sld 1115 dL_law_1115 (hi 2 (by decide)) ?_
  obtain ⟨r, μ1, μ2, h1, h2, hI⟩ := hst μ (xs ((nI j) + 1).toNatClampNeg) (xs ((nI j) + 2).toNatClampNeg) hI
  refine rx_callV 1116 10 [.int (xs ((nI j) + 1).toNatClampNeg), .int (xs ((nI j) + 2).toNatClampNeg)] dL_law_1116 caX10_wornIn lL_153 inX10_wornIn slX10_wornIn rfl ly_0 ⟨_, rfl, rfl⟩ rln_0 naX10_wornIn (Nat.le_of_ble_eq_true rfl) (Nat.le_of_ble_eq_true rfl) (by decide) (Nat.le_refl _) (Nat.le_refl _) (wX10_wornIn (xs ((nI j) + 1).toNatClampNeg) (xs ((nI j) + 2).toNatClampNeg) μ h1) ?_
  intro r9 σ9 h9 _
  obtain ⟨rfl, rfl⟩ := h9
  refine rx_aload_n 1119 dL_law_1119 2 rfl ?_
  refine rx_aload_n 1120 dL_law_1120 0 rfl ?_
  refine rx_iload_n 1121 dL_law_1121 3 rfl ?_
  refine rx_iconst 1122 (v := 1) dL_law_1122 (by decide) ?_
  refine rx_iadd 1123 dL_law_1123 ?_
  refine rx_sld 1124 dL_law_1124 (hi 1 (by decide)) ?_
  refine rx_aload_n 1125 dL_law_1125 0 rfl ?_
  refine rx_iload_n 1126 dL_law_1126 3 rfl ?_
  refine rx_iconst 1127 (v := 2) dL_law_1127 (by decide) ?_
  refine rx_iadd 1128 dL_law_1128 ?_
  refine rx_sld 1129 dL_law_1129 (hi 2 (by decide)) ?_
  refine rx_callV 1130 11 [.int (xs ((nI j) + 1).toNatClampNeg), .int (xs ((nI j) + 2).toNatClampNeg)] dL_law_1130 caX11_wornIn lL_156 inX11_wornIn slX11_wornIn rfl ly_243 ⟨_, rfl, rfl⟩ rln_243 naX11_wornIn (Nat.le_of_ble_eq_true rfl) (Nat.le_of_ble_eq_true rfl) (by decide) (Nat.le_refl _) (Nat.le_refl _) (wX11_wornIn (xs ((nI j) + 1).toNatClampNeg) (xs ((nI j) + 2).toNatClampNeg) μ1 h2) ?_
  intro r9 σ9 h9 _
  obtain ⟨rfl, rfl⟩ := h9
  refine rx_icmp_eq 1133 1368 dL_law_1133 (by decide) (fun _ => ?_) (fun c3 => absurd rfl c3)
  exact hcont _ hI
def st_year (Inv : Mem → Prop) : Prop := ∀ (μ : Mem) (a1 : Int32) (a2 : Int32) (a3 : Int32), Inv μ → ∃ (r : Int32) (μ1 : Mem) (μ2 : Mem), (fX10_year a1 a2 a3 μ) = some (r, μ1) ∧ (fX11_year a1 a2 a3 μ1) = some (r, μ2) ∧ Inv μ2
set_option maxRecDepth 100000 in
theorem lc_year {Inv : Mem → Prop} (hst : st_year Inv) {Ls j : Nat} {xs : Nat → Int32} (hi : ∀ c : Nat, c < 6 → inb (nI j + nI c) Ls) {μ : Mem} (hI : Inv μ) (hcont : ∀ μ2, Inv μ2 → RX (PX Ls xs) mL 1000 0 NF 1368 (LL j) [] (μ2, Rf0, NF) QL) : RX (PX Ls xs) mL 1000 0 NF 1138 (LL j) [] (μ, Rf0, NF) QL := by
  refine rx_aload_n 1138 dL_law_1138 1 rfl ?_
  refine rx_aload_n 1139 dL_law_1139 0 rfl ?_
  refine rx_iload_n 1140 dL_law_1140 3 rfl ?_
  refine rx_iconst 1141 (v := 1) dL_law_1141 (by decide) ?_
  refine rx_iadd 1142 dL_law_1142 ?_
  refine rx_sld 1143 dL_law_1143 (hi 1 (by decide)) ?_
  refine rx_aload_n 1144 dL_law_1144 0 rfl ?_
  refine rx_iload_n 1145 dL_law_1145 3 rfl ?_
  refine rx_iconst 1146 (v := 2) dL_law_1146 (by decide) ?_
  refine rx_iadd 1147 dL_law_1147 ?_
  refine rx_sld 1148 dL_law_1148 (hi 2 (by decide)) ?_
  refine rx_aload_n 1149 dL_law_1149 0 rfl ?_
  refine rx_iload_n 1150 dL_law_1150 3 rfl ?_
  refine rx_iconst 1151 (v := 3) dL_law_1151 (by decide) ?_
  refine rx_iadd 1152 dL_law_1152 ?_
  refine rx_sld 1153 dL_law_1153 (hi 3 (by decide)) ?_
  obtain ⟨r, μ1, μ2, h1, h2, hI⟩ := hst μ (xs ((nI j) + 1).toNatClampNeg) (xs ((nI j) + 2).toNatClampNeg) (xs ((nI j) + 3).toNatClampNeg) hI
  refine rx_callV 1154 10 [.int (xs ((nI j) + 1).toNatClampNeg), .int (xs ((nI j) + 2).toNatClampNeg), .int (xs ((nI j) + 3).toNatClampNeg)] dL_law_1154 caX10_year lL_157 inX10_year slX10_year rfl ly_0 ⟨_, rfl, rfl⟩ rln_0 naX10_year (Nat.le_of_ble_eq_true rfl) (Nat.le_of_ble_eq_true rfl) (by decide) (Nat.le_refl _) (Nat.le_refl _) (wX10_year (xs ((nI j) + 1).toNatClampNeg) (xs ((nI j) + 2).toNatClampNeg) (xs ((nI j) + 3).toNatClampNeg) μ h1) ?_
  intro r9 σ9 h9 _
  obtain ⟨rfl, rfl⟩ := h9
  refine rx_aload_n 1157 dL_law_1157 2 rfl ?_
  refine rx_aload_n 1158 dL_law_1158 0 rfl ?_
  refine rx_iload_n 1159 dL_law_1159 3 rfl ?_
  refine rx_iconst 1160 (v := 1) dL_law_1160 (by decide) ?_
  refine rx_iadd 1161 dL_law_1161 ?_
  refine rx_sld 1162 dL_law_1162 (hi 1 (by decide)) ?_
  refine rx_aload_n 1163 dL_law_1163 0 rfl ?_
  refine rx_iload_n 1164 dL_law_1164 3 rfl ?_
  refine rx_iconst 1165 (v := 2) dL_law_1165 (by decide) ?_
  refine rx_iadd 1166 dL_law_1166 ?_
  refine rx_sld 1167 dL_law_1167 (hi 2 (by decide)) ?_
  refine rx_aload_n 1168 dL_law_1168 0 rfl ?_
  refine rx_iload_n 1169 dL_law_1169 3 rfl ?_
  refine rx_iconst 1170 (v := 3) dL_law_1170 (by decide) ?_
  refine rx_iadd 1171 dL_law_1171 ?_
  refine rx_sld 1172 dL_law_1172 (hi 3 (by decide)) ?_
  refine rx_callV 1173 11 [.int (xs ((nI j) + 1).toNatClampNeg), .int (xs ((nI j) + 2).toNatClampNeg), .int (xs ((nI j) + 3).toNatClampNeg)] dL_law_1173 caX11_year lL_160 inX11_year slX11_year rfl ly_243 ⟨_, rfl, rfl⟩ rln_243 naX11_year (Nat.le_of_ble_eq_true rfl) (Nat.le_of_ble_eq_true rfl) (by decide) (Nat.le_refl _) (Nat.le_refl _) (wX11_year (xs ((nI j) + 1).toNatClampNeg) (xs ((nI j) + 2).toNatClampNeg) (xs ((nI j) + 3).toNatClampNeg) μ1 h2) ?_
  intro r9 σ9 h9 _
  obtain ⟨rfl, rfl⟩ := h9
  refine rx_icmp_eq 1176 1368 dL_law_1176 (by decide) (fun _ => ?_) (fun c3 => absurd rfl c3)
  exact hcont _ hI
def st_tell (Inv : Mem → Prop) : Prop := ∀ (μ : Mem) (a1 : Int32) (b : Bool), Inv μ → ∃ (r : Int32) (μ1 : Mem) (μ2 : Mem), (fX10_tell a1 (b2i b) μ) = some (r, μ1) ∧ (fX11_tell a1 (b2i b) μ1) = some (r, μ2) ∧ Inv μ2
set_option maxRecDepth 100000 in
theorem lc_tell {Inv : Mem → Prop} (hst : st_tell Inv) {Ls j : Nat} {xs : Nat → Int32} (hi : ∀ c : Nat, c < 6 → inb (nI j + nI c) Ls) {μ : Mem} (hI : Inv μ) (hcont : ∀ μ2, Inv μ2 → RX (PX Ls xs) mL 1000 0 NF 1368 (LL j) [] (μ2, Rf0, NF) QL) : RX (PX Ls xs) mL 1000 0 NF 1181 (LL j) [] (μ, Rf0, NF) QL := by
  refine rx_aload_n 1181 dL_law_1181 1 rfl ?_
  refine rx_aload_n 1182 dL_law_1182 0 rfl ?_
  refine rx_iload_n 1183 dL_law_1183 3 rfl ?_
  refine rx_iconst 1184 (v := 1) dL_law_1184 (by decide) ?_
  refine rx_iadd 1185 dL_law_1185 ?_
  refine rx_sld 1186 dL_law_1186 (hi 1 (by decide)) ?_
  refine rx_aload_n 1187 dL_law_1187 0 rfl ?_
  refine rx_iload_n 1188 dL_law_1188 3 rfl ?_
  refine rx_iconst 1189 (v := 2) dL_law_1189 (by decide) ?_
  refine rx_iadd 1190 dL_law_1190 ?_
  refine rx_sld 1191 dL_law_1191 (hi 2 (by decide)) ?_
  refine rx_if_eq 1192 1199 dL_law_1192 (by decide) (fun c => ?_) (fun c => ?_)
  · refine rx_iconst 1199 (v := 0) dL_law_1199 (by decide) ?_
    obtain ⟨r, μ1, μ2, h1, h2, hI⟩ := hst μ (xs ((nI j) + 1).toNatClampNeg) false hI
    refine rx_callV 1200 10 [.int (xs ((nI j) + 1).toNatClampNeg), .int 0] dL_law_1200 caX10_tell lL_161 inX10_tell slX10_tell rfl ly_0 ⟨_, rfl, rfl⟩ rln_0 naX10_tell (Nat.le_of_ble_eq_true rfl) (Nat.le_of_ble_eq_true rfl) (by decide) (Nat.le_refl _) (Nat.le_refl _) (wX10_tell (xs ((nI j) + 1).toNatClampNeg) 0 μ h1) ?_
    intro r9 σ9 h9 _
    obtain ⟨rfl, rfl⟩ := h9
    refine rx_aload_n 1203 dL_law_1203 2 rfl ?_
    refine rx_aload_n 1204 dL_law_1204 0 rfl ?_
    refine rx_iload_n 1205 dL_law_1205 3 rfl ?_
    refine rx_iconst 1206 (v := 1) dL_law_1206 (by decide) ?_
    refine rx_iadd 1207 dL_law_1207 ?_
    refine rx_sld 1208 dL_law_1208 (hi 1 (by decide)) ?_
    refine rx_aload_n 1209 dL_law_1209 0 rfl ?_
    refine rx_iload_n 1210 dL_law_1210 3 rfl ?_
    refine rx_iconst 1211 (v := 2) dL_law_1211 (by decide) ?_
    refine rx_iadd 1212 dL_law_1212 ?_
    refine rx_sld 1213 dL_law_1213 (hi 2 (by decide)) ?_
    refine rx_if_eq 1214 1221 dL_law_1214 (by decide) (fun _ => ?_) (fun c2 => absurd c c2)
    refine rx_iconst 1221 (v := 0) dL_law_1221 (by decide) ?_
    refine rx_callV 1222 11 [.int (xs ((nI j) + 1).toNatClampNeg), .int 0] dL_law_1222 caX11_tell lL_165 inX11_tell slX11_tell rfl ly_243 ⟨_, rfl, rfl⟩ rln_243 naX11_tell (Nat.le_of_ble_eq_true rfl) (Nat.le_of_ble_eq_true rfl) (by decide) (Nat.le_refl _) (Nat.le_refl _) (wX11_tell (xs ((nI j) + 1).toNatClampNeg) 0 μ1 h2) ?_
    intro r9 σ9 h9 _
    obtain ⟨rfl, rfl⟩ := h9
    refine rx_icmp_eq 1225 1368 dL_law_1225 (by decide) (fun _ => ?_) (fun c3 => absurd rfl c3)
    exact hcont _ hI
  · refine rx_iconst 1195 (v := 1) dL_law_1195 (by decide) ?_
    refine rx_goto 1196 1200 dL_law_1196 (by decide) ?_
    obtain ⟨r, μ1, μ2, h1, h2, hI⟩ := hst μ (xs ((nI j) + 1).toNatClampNeg) true hI
    refine rx_callV 1200 10 [.int (xs ((nI j) + 1).toNatClampNeg), .int 1] dL_law_1200 caX10_tell lL_161 inX10_tell slX10_tell rfl ly_0 ⟨_, rfl, rfl⟩ rln_0 naX10_tell (Nat.le_of_ble_eq_true rfl) (Nat.le_of_ble_eq_true rfl) (by decide) (Nat.le_refl _) (Nat.le_refl _) (wX10_tell (xs ((nI j) + 1).toNatClampNeg) 1 μ h1) ?_
    intro r9 σ9 h9 _
    obtain ⟨rfl, rfl⟩ := h9
    refine rx_aload_n 1203 dL_law_1203 2 rfl ?_
    refine rx_aload_n 1204 dL_law_1204 0 rfl ?_
    refine rx_iload_n 1205 dL_law_1205 3 rfl ?_
    refine rx_iconst 1206 (v := 1) dL_law_1206 (by decide) ?_
    refine rx_iadd 1207 dL_law_1207 ?_
    refine rx_sld 1208 dL_law_1208 (hi 1 (by decide)) ?_
    refine rx_aload_n 1209 dL_law_1209 0 rfl ?_
    refine rx_iload_n 1210 dL_law_1210 3 rfl ?_
    refine rx_iconst 1211 (v := 2) dL_law_1211 (by decide) ?_
    refine rx_iadd 1212 dL_law_1212 ?_
    refine rx_sld 1213 dL_law_1213 (hi 2 (by decide)) ?_
    refine rx_if_eq 1214 1221 dL_law_1214 (by decide) (fun c2 => absurd c2 c) (fun _ => ?_)
    refine rx_iconst 1217 (v := 1) dL_law_1217 (by decide) ?_
    refine rx_goto 1218 1222 dL_law_1218 (by decide) ?_
    refine rx_callV 1222 11 [.int (xs ((nI j) + 1).toNatClampNeg), .int 1] dL_law_1222 caX11_tell lL_165 inX11_tell slX11_tell rfl ly_243 ⟨_, rfl, rfl⟩ rln_243 naX11_tell (Nat.le_of_ble_eq_true rfl) (Nat.le_of_ble_eq_true rfl) (by decide) (Nat.le_refl _) (Nat.le_refl _) (wX11_tell (xs ((nI j) + 1).toNatClampNeg) 1 μ1 h2) ?_
    intro r9 σ9 h9 _
    obtain ⟨rfl, rfl⟩ := h9
    refine rx_icmp_eq 1225 1368 dL_law_1225 (by decide) (fun _ => ?_) (fun c3 => absurd rfl c3)
    exact hcont _ hI
def st_forget (Inv : Mem → Prop) : Prop := ∀ (μ : Mem) , Inv μ → ∃ (r : Int32) (μ1 : Mem) (μ2 : Mem), (fX10_forget μ) = some (r, μ1) ∧ (fX11_forget μ1) = some (r, μ2) ∧ Inv μ2
set_option maxRecDepth 100000 in
theorem lc_forget {Inv : Mem → Prop} (hst : st_forget Inv) {Ls j : Nat} {xs : Nat → Int32} (hi : ∀ c : Nat, c < 6 → inb (nI j + nI c) Ls) {μ : Mem} (hI : Inv μ) (hcont : ∀ μ2, Inv μ2 → RX (PX Ls xs) mL 1000 0 NF 1368 (LL j) [] (μ2, Rf0, NF) QL) : RX (PX Ls xs) mL 1000 0 NF 1230 (LL j) [] (μ, Rf0, NF) QL := by
  refine rx_aload_n 1230 dL_law_1230 1 rfl ?_
  obtain ⟨r, μ1, μ2, h1, h2, hI⟩ := hst μ  hI
  refine rx_callV 1231 10 [] dL_law_1231 caX10_forget lL_166 inX10_forget slX10_forget rfl ly_0 ⟨_, rfl, rfl⟩ rln_0 naX10_forget (Nat.le_of_ble_eq_true rfl) (Nat.le_of_ble_eq_true rfl) (by decide) (Nat.le_refl _) (Nat.le_refl _) (wX10_forget μ h1) ?_
  intro r9 σ9 h9 _
  obtain ⟨rfl, rfl⟩ := h9
  refine rx_aload_n 1234 dL_law_1234 2 rfl ?_
  refine rx_callV 1235 11 [] dL_law_1235 caX11_forget lL_169 inX11_forget slX11_forget rfl ly_243 ⟨_, rfl, rfl⟩ rln_243 naX11_forget (Nat.le_of_ble_eq_true rfl) (Nat.le_of_ble_eq_true rfl) (by decide) (Nat.le_refl _) (Nat.le_refl _) (wX11_forget μ1 h2) ?_
  intro r9 σ9 h9 _
  obtain ⟨rfl, rfl⟩ := h9
  refine rx_icmp_eq 1238 1368 dL_law_1238 (by decide) (fun _ => ?_) (fun c3 => absurd rfl c3)
  exact hcont _ hI
def st_whose (Inv : Mem → Prop) : Prop := ∀ (μ : Mem) (a1 : Int32) (a2 : Int32), Inv μ → ∃ (r : Int32), (fX10_whose a1 a2 μ) = some r ∧ (fX11_whose a1 a2 μ) = some r
set_option maxRecDepth 100000 in
theorem lc_whose {Inv : Mem → Prop} (hst : st_whose Inv) {Ls j : Nat} {xs : Nat → Int32} (hi : ∀ c : Nat, c < 6 → inb (nI j + nI c) Ls) {μ : Mem} (hI : Inv μ) (hcont : ∀ μ2, Inv μ2 → RX (PX Ls xs) mL 1000 0 NF 1368 (LL j) [] (μ2, Rf0, NF) QL) : RX (PX Ls xs) mL 1000 0 NF 1243 (LL j) [] (μ, Rf0, NF) QL := by
  refine rx_aload_n 1243 dL_law_1243 1 rfl ?_
  refine rx_aload_n 1244 dL_law_1244 0 rfl ?_
  refine rx_iload_n 1245 dL_law_1245 3 rfl ?_
  refine rx_iconst 1246 (v := 1) dL_law_1246 (by decide) ?_
  refine rx_iadd 1247 dL_law_1247 ?_
  refine rx_sld 1248 dL_law_1248 (hi 1 (by decide)) ?_
  refine rx_aload_n 1249 dL_law_1249 0 rfl ?_
  refine rx_iload_n 1250 dL_law_1250 3 rfl ?_
  refine rx_iconst 1251 (v := 2) dL_law_1251 (by decide) ?_
  refine rx_iadd 1252 dL_law_1252 ?_
  refine rx_sld 1253 dL_law_1253 (hi 2 (by decide)) ?_
  obtain ⟨r, h1, h2⟩ := hst μ (xs ((nI j) + 1).toNatClampNeg) (xs ((nI j) + 2).toNatClampNeg) hI
  refine rx_callV 1254 10 [.int (xs ((nI j) + 1).toNatClampNeg), .int (xs ((nI j) + 2).toNatClampNeg)] dL_law_1254 caX10_whose lL_170 inX10_whose slX10_whose rfl ly_0 ⟨_, rfl, rfl⟩ rln_0 naX10_whose (Nat.le_of_ble_eq_true rfl) (Nat.le_of_ble_eq_true rfl) (by decide) (Nat.le_refl _) (Nat.le_refl _) (wX10_whose (xs ((nI j) + 1).toNatClampNeg) (xs ((nI j) + 2).toNatClampNeg) μ h1) ?_
  intro r9 σ9 h9 _
  obtain ⟨rfl, rfl⟩ := h9
  refine rx_aload_n 1257 dL_law_1257 2 rfl ?_
  refine rx_aload_n 1258 dL_law_1258 0 rfl ?_
  refine rx_iload_n 1259 dL_law_1259 3 rfl ?_
  refine rx_iconst 1260 (v := 1) dL_law_1260 (by decide) ?_
  refine rx_iadd 1261 dL_law_1261 ?_
  refine rx_sld 1262 dL_law_1262 (hi 1 (by decide)) ?_
  refine rx_aload_n 1263 dL_law_1263 0 rfl ?_
  refine rx_iload_n 1264 dL_law_1264 3 rfl ?_
  refine rx_iconst 1265 (v := 2) dL_law_1265 (by decide) ?_
  refine rx_iadd 1266 dL_law_1266 ?_
  refine rx_sld 1267 dL_law_1267 (hi 2 (by decide)) ?_
  refine rx_callV 1268 11 [.int (xs ((nI j) + 1).toNatClampNeg), .int (xs ((nI j) + 2).toNatClampNeg)] dL_law_1268 caX11_whose lL_173 inX11_whose slX11_whose rfl ly_243 ⟨_, rfl, rfl⟩ rln_243 naX11_whose (Nat.le_of_ble_eq_true rfl) (Nat.le_of_ble_eq_true rfl) (by decide) (Nat.le_refl _) (Nat.le_refl _) (wX11_whose (xs ((nI j) + 1).toNatClampNeg) (xs ((nI j) + 2).toNatClampNeg) μ h2) ?_
  intro r9 σ9 h9 _
  obtain ⟨rfl, rfl⟩ := h9
  refine rx_icmp_eq 1271 1368 dL_law_1271 (by decide) (fun _ => ?_) (fun c3 => absurd rfl c3)
  exact hcont _ hI
def st_look (Inv : Mem → Prop) : Prop := ∀ (μ : Mem) (a1 : Int32), Inv μ → ∃ (r : Int32), (fX10_look a1 μ) = some r ∧ (fX11_look a1 μ) = some r
set_option maxRecDepth 100000 in
theorem lc_look {Inv : Mem → Prop} (hst : st_look Inv) {Ls j : Nat} {xs : Nat → Int32} (hi : ∀ c : Nat, c < 6 → inb (nI j + nI c) Ls) {μ : Mem} (hI : Inv μ) (hcont : ∀ μ2, Inv μ2 → RX (PX Ls xs) mL 1000 0 NF 1368 (LL j) [] (μ2, Rf0, NF) QL) : RX (PX Ls xs) mL 1000 0 NF 1276 (LL j) [] (μ, Rf0, NF) QL := by
  refine rx_aload_n 1276 dL_law_1276 1 rfl ?_
  refine rx_aload_n 1277 dL_law_1277 0 rfl ?_
  refine rx_iload_n 1278 dL_law_1278 3 rfl ?_
  refine rx_iconst 1279 (v := 1) dL_law_1279 (by decide) ?_
  refine rx_iadd 1280 dL_law_1280 ?_
  refine rx_sld 1281 dL_law_1281 (hi 1 (by decide)) ?_
  obtain ⟨r, h1, h2⟩ := hst μ (xs ((nI j) + 1).toNatClampNeg) hI
  refine rx_callV 1282 10 [.int (xs ((nI j) + 1).toNatClampNeg)] dL_law_1282 caX10_look lL_174 inX10_look slX10_look rfl ly_0 ⟨_, rfl, rfl⟩ rln_0 naX10_look (Nat.le_of_ble_eq_true rfl) (Nat.le_of_ble_eq_true rfl) (by decide) (Nat.le_refl _) (Nat.le_refl _) (wX10_look (xs ((nI j) + 1).toNatClampNeg) μ h1) ?_
  intro r9 σ9 h9 _
  obtain ⟨rfl, rfl⟩ := h9
  refine rx_aload_n 1285 dL_law_1285 2 rfl ?_
  refine rx_aload_n 1286 dL_law_1286 0 rfl ?_
  refine rx_iload_n 1287 dL_law_1287 3 rfl ?_
  refine rx_iconst 1288 (v := 1) dL_law_1288 (by decide) ?_
  refine rx_iadd 1289 dL_law_1289 ?_
  refine rx_sld 1290 dL_law_1290 (hi 1 (by decide)) ?_
  refine rx_callV 1291 11 [.int (xs ((nI j) + 1).toNatClampNeg)] dL_law_1291 caX11_look lL_177 inX11_look slX11_look rfl ly_243 ⟨_, rfl, rfl⟩ rln_243 naX11_look (Nat.le_of_ble_eq_true rfl) (Nat.le_of_ble_eq_true rfl) (by decide) (Nat.le_refl _) (Nat.le_refl _) (wX11_look (xs ((nI j) + 1).toNatClampNeg) μ h2) ?_
  intro r9 σ9 h9 _
  obtain ⟨rfl, rfl⟩ := h9
  refine rx_icmp_eq 1294 1368 dL_law_1294 (by decide) (fun _ => ?_) (fun c3 => absurd rfl c3)
  exact hcont _ hI
def st_hold (Inv : Mem → Prop) : Prop := ∀ (μ : Mem) (a1 : Int32), Inv μ → ∃ (r : Bool) (μ1 : Mem) (μ2 : Mem), (fX10_hold a1 μ) = some (r, μ1) ∧ (fX11_hold a1 μ1) = some (r, μ2) ∧ Inv μ2
set_option maxRecDepth 100000 in
theorem lc_hold {Inv : Mem → Prop} (hst : st_hold Inv) {Ls j : Nat} {xs : Nat → Int32} (hi : ∀ c : Nat, c < 6 → inb (nI j + nI c) Ls) {μ : Mem} (hI : Inv μ) (hcont : ∀ μ2, Inv μ2 → RX (PX Ls xs) mL 1000 0 NF 1368 (LL j) [] (μ2, Rf0, NF) QL) : RX (PX Ls xs) mL 1000 0 NF 1299 (LL j) [] (μ, Rf0, NF) QL := by
  refine rx_aload_n 1299 dL_law_1299 1 rfl ?_
  refine rx_aload_n 1300 dL_law_1300 0 rfl ?_
  refine rx_iload_n 1301 dL_law_1301 3 rfl ?_
  refine rx_iconst 1302 (v := 1) dL_law_1302 (by decide) ?_
  refine rx_iadd 1303 dL_law_1303 ?_
  refine rx_sld 1304 dL_law_1304 (hi 1 (by decide)) ?_
  obtain ⟨r, μ1, μ2, h1, h2, hI⟩ := hst μ (xs ((nI j) + 1).toNatClampNeg) hI
  refine rx_callV 1305 10 [.int (xs ((nI j) + 1).toNatClampNeg)] dL_law_1305 caX10_hold lL_178 inX10_hold slX10_hold rfl ly_0 ⟨_, rfl, rfl⟩ rln_0 naX10_hold (Nat.le_of_ble_eq_true rfl) (Nat.le_of_ble_eq_true rfl) (by decide) (Nat.le_refl _) (Nat.le_refl _) (wX10_hold (xs ((nI j) + 1).toNatClampNeg) μ h1) ?_
  intro r9 σ9 h9 _
  obtain ⟨rfl, rfl⟩ := h9
  refine rx_aload_n 1308 dL_law_1308 2 rfl ?_
  refine rx_aload_n 1309 dL_law_1309 0 rfl ?_
  refine rx_iload_n 1310 dL_law_1310 3 rfl ?_
  refine rx_iconst 1311 (v := 1) dL_law_1311 (by decide) ?_
  refine rx_iadd 1312 dL_law_1312 ?_
  refine rx_sld 1313 dL_law_1313 (hi 1 (by decide)) ?_
  refine rx_callV 1314 11 [.int (xs ((nI j) + 1).toNatClampNeg)] dL_law_1314 caX11_hold lL_181 inX11_hold slX11_hold rfl ly_243 ⟨_, rfl, rfl⟩ rln_243 naX11_hold (Nat.le_of_ble_eq_true rfl) (Nat.le_of_ble_eq_true rfl) (by decide) (Nat.le_refl _) (Nat.le_refl _) (wX11_hold (xs ((nI j) + 1).toNatClampNeg) μ1 h2) ?_
  intro r9 σ9 h9 _
  obtain ⟨rfl, rfl⟩ := h9
  refine rx_icmp_eq 1317 1368 dL_law_1317 (by decide) (fun _ => ?_) (fun c3 => absurd rfl c3)
  exact hcont _ hI
def st_restore (Inv : Mem → Prop) : Prop := ∀ (μ : Mem) (a1 : Int32), Inv μ → ∃ (r : Bool) (μ1 : Mem) (μ2 : Mem), (fX10_restore a1 μ) = some (r, μ1) ∧ (fX11_restore a1 μ1) = some (r, μ2) ∧ Inv μ2
set_option maxRecDepth 100000 in
theorem lc_restore {Inv : Mem → Prop} (hst : st_restore Inv) {Ls j : Nat} {xs : Nat → Int32} (hi : ∀ c : Nat, c < 6 → inb (nI j + nI c) Ls) {μ : Mem} (hI : Inv μ) (hcont : ∀ μ2, Inv μ2 → RX (PX Ls xs) mL 1000 0 NF 1368 (LL j) [] (μ2, Rf0, NF) QL) : RX (PX Ls xs) mL 1000 0 NF 1322 (LL j) [] (μ, Rf0, NF) QL := by
  refine rx_aload_n 1322 dL_law_1322 1 rfl ?_
  refine rx_aload_n 1323 dL_law_1323 0 rfl ?_
  refine rx_iload_n 1324 dL_law_1324 3 rfl ?_
  refine rx_iconst 1325 (v := 1) dL_law_1325 (by decide) ?_
  refine rx_iadd 1326 dL_law_1326 ?_
  refine rx_sld 1327 dL_law_1327 (hi 1 (by decide)) ?_
  obtain ⟨r, μ1, μ2, h1, h2, hI⟩ := hst μ (xs ((nI j) + 1).toNatClampNeg) hI
  refine rx_callV 1328 10 [.int (xs ((nI j) + 1).toNatClampNeg)] dL_law_1328 caX10_restore lL_182 inX10_restore slX10_restore rfl ly_0 ⟨_, rfl, rfl⟩ rln_0 naX10_restore (Nat.le_of_ble_eq_true rfl) (Nat.le_of_ble_eq_true rfl) (by decide) (Nat.le_refl _) (Nat.le_refl _) (wX10_restore (xs ((nI j) + 1).toNatClampNeg) μ h1) ?_
  intro r9 σ9 h9 _
  obtain ⟨rfl, rfl⟩ := h9
  refine rx_aload_n 1331 dL_law_1331 2 rfl ?_
  refine rx_aload_n 1332 dL_law_1332 0 rfl ?_
  refine rx_iload_n 1333 dL_law_1333 3 rfl ?_
  refine rx_iconst 1334 (v := 1) dL_law_1334 (by decide) ?_
  refine rx_iadd 1335 dL_law_1335 ?_
  refine rx_sld 1336 dL_law_1336 (hi 1 (by decide)) ?_
  refine rx_callV 1337 11 [.int (xs ((nI j) + 1).toNatClampNeg)] dL_law_1337 caX11_restore lL_185 inX11_restore slX11_restore rfl ly_243 ⟨_, rfl, rfl⟩ rln_243 naX11_restore (Nat.le_of_ble_eq_true rfl) (Nat.le_of_ble_eq_true rfl) (by decide) (Nat.le_refl _) (Nat.le_refl _) (wX11_restore (xs ((nI j) + 1).toNatClampNeg) μ1 h2) ?_
  intro r9 σ9 h9 _
  obtain ⟨rfl, rfl⟩ := h9
  refine rx_icmp_eq 1340 1368 dL_law_1340 (by decide) (fun _ => ?_) (fun c3 => absurd rfl c3)
  exact hcont _ hI
def st_count (Inv : Mem → Prop) : Prop := ∀ (μ : Mem) (a1 : Int32), Inv μ → ∃ (r : Int32) (μ1 : Mem) (μ2 : Mem), (fX10_count a1 μ) = some (r, μ1) ∧ (fX11_count a1 μ1) = some (r, μ2) ∧ Inv μ2
set_option maxRecDepth 100000 in
theorem lc_count {Inv : Mem → Prop} (hst : st_count Inv) {Ls j : Nat} {xs : Nat → Int32} (hi : ∀ c : Nat, c < 6 → inb (nI j + nI c) Ls) {μ : Mem} (hI : Inv μ) (hcont : ∀ μ2, Inv μ2 → RX (PX Ls xs) mL 1000 0 NF 1368 (LL j) [] (μ2, Rf0, NF) QL) : RX (PX Ls xs) mL 1000 0 NF 1345 (LL j) [] (μ, Rf0, NF) QL := by
  refine rx_aload_n 1345 dL_law_1345 1 rfl ?_
  refine rx_aload_n 1346 dL_law_1346 0 rfl ?_
  refine rx_iload_n 1347 dL_law_1347 3 rfl ?_
  refine rx_iconst 1348 (v := 1) dL_law_1348 (by decide) ?_
  refine rx_iadd 1349 dL_law_1349 ?_
  refine rx_sld 1350 dL_law_1350 (hi 1 (by decide)) ?_
  obtain ⟨r, μ1, μ2, h1, h2, hI⟩ := hst μ (xs ((nI j) + 1).toNatClampNeg) hI
  refine rx_callV 1351 10 [.int (xs ((nI j) + 1).toNatClampNeg)] dL_law_1351 caX10_count lL_186 inX10_count slX10_count rfl ly_0 ⟨_, rfl, rfl⟩ rln_0 naX10_count (Nat.le_of_ble_eq_true rfl) (Nat.le_of_ble_eq_true rfl) (by decide) (Nat.le_refl _) (Nat.le_refl _) (wX10_count (xs ((nI j) + 1).toNatClampNeg) μ h1) ?_
  intro r9 σ9 h9 _
  obtain ⟨rfl, rfl⟩ := h9
  refine rx_aload_n 1354 dL_law_1354 2 rfl ?_
  refine rx_aload_n 1355 dL_law_1355 0 rfl ?_
  refine rx_iload_n 1356 dL_law_1356 3 rfl ?_
  refine rx_iconst 1357 (v := 1) dL_law_1357 (by decide) ?_
  refine rx_iadd 1358 dL_law_1358 ?_
  refine rx_sld 1359 dL_law_1359 (hi 1 (by decide)) ?_
  refine rx_callV 1360 11 [.int (xs ((nI j) + 1).toNatClampNeg)] dL_law_1360 caX11_count lL_189 inX11_count slX11_count rfl ly_243 ⟨_, rfl, rfl⟩ rln_243 naX11_count (Nat.le_of_ble_eq_true rfl) (Nat.le_of_ble_eq_true rfl) (by decide) (Nat.le_refl _) (Nat.le_refl _) (wX11_count (xs ((nI j) + 1).toNatClampNeg) μ1 h2) ?_
  intro r9 σ9 h9 _
  obtain ⟨rfl, rfl⟩ := h9
  refine rx_icmp_eq 1363 1368 dL_law_1363 (by decide) (fun _ => ?_) (fun c3 => absurd rfl c3)
  exact hcont _ hI
def STEPS (Inv : Mem → Prop) : Prop := st_feed Inv ∧ st_back Inv ∧ st_read Inv ∧ st_place Inv ∧ st_sunday Inv ∧ st_guest Inv ∧ st_at Inv ∧ st_letIn Inv ∧ st_putOut Inv ∧ st_sell Inv ∧ st_air Inv ∧ st_weeks Inv ∧ st_undo Inv ∧ st_alone Inv ∧ st_letting Inv ∧ st_fewest Inv ∧ st_colours Inv ∧ st_tangle Inv ∧ st_fitting Inv ∧ st_row Inv ∧ st_change Inv ∧ st_payer Inv ∧ st_idle Inv ∧ st_used Inv ∧ st_first Inv ∧ st_gap Inv ∧ st_room Inv ∧ st_price Inv ∧ st_best Inv ∧ st_weary Inv ∧ st_earned Inv ∧ st_rivals Inv ∧ st_then Inv ∧ st_wornIn Inv ∧ st_year Inv ∧ st_tell Inv ∧ st_forget Inv ∧ st_whose Inv ∧ st_look Inv ∧ st_hold Inv ∧ st_restore Inv ∧ st_count Inv
set_option maxRecDepth 100000 in
set_option maxHeartbeats 4000000 in
theorem law_sw {Inv : Mem → Prop} (h : STEPS Inv) {Ls j : Nat} {xs : Nat → Int32} (hi : ∀ c : Nat, c < 6 → inb (nI j + nI c) Ls) {μ : Mem} (hI : Inv μ) (hcont : ∀ μ2, Inv μ2 → RX (PX Ls xs) mL 1000 0 NF 1368 (LL j) [] (μ2, Rf0, NF) QL) (x : Int32) : RX (PX Ls xs) mL 1000 0 NF 33 (LL j) [.int x] (μ, Rf0, NF) QL := by
  by_cases e0 : x = 0
  · exact rx_tabIn 33 216 dL_law_33 (by rw [e0]; decide) (by rw [e0]; decide) (by rw [e0]; rfl) (by decide) (lc_feed h.1 hi hI hcont)
  by_cases e1 : x = 1
  · exact rx_tabIn 33 279 dL_law_33 (by rw [e1]; decide) (by rw [e1]; decide) (by rw [e1]; rfl) (by decide) (lc_back h.2.1 hi hI hcont)
  by_cases e2 : x = 2
  · exact rx_tabIn 33 302 dL_law_33 (by rw [e2]; decide) (by rw [e2]; decide) (by rw [e2]; rfl) (by decide) (lc_read h.2.2.1 hi hI hcont)
  by_cases e3 : x = 3
  · exact rx_tabIn 33 315 dL_law_33 (by rw [e3]; decide) (by rw [e3]; decide) (by rw [e3]; rfl) (by decide) (lc_place h.2.2.2.1 hi hI hcont)
  by_cases e4 : x = 4
  · exact rx_tabIn 33 328 dL_law_33 (by rw [e4]; decide) (by rw [e4]; decide) (by rw [e4]; rfl) (by decide) (lc_sunday h.2.2.2.2.1 hi hI hcont)
  by_cases e5 : x = 5
  · exact rx_tabIn 33 361 dL_law_33 (by rw [e5]; decide) (by rw [e5]; decide) (by rw [e5]; rfl) (by decide) (lc_guest h.2.2.2.2.2.1 hi hI hcont)
  by_cases e6 : x = 6
  · exact rx_tabIn 33 394 dL_law_33 (by rw [e6]; decide) (by rw [e6]; decide) (by rw [e6]; rfl) (by decide) (lc_at h.2.2.2.2.2.2.1 hi hI hcont)
  by_cases e7 : x = 7
  · exact rx_tabIn 33 427 dL_law_33 (by rw [e7]; decide) (by rw [e7]; decide) (by rw [e7]; rfl) (by decide) (lc_letIn h.2.2.2.2.2.2.2.1 hi hI hcont)
  by_cases e8 : x = 8
  · exact rx_tabIn 33 460 dL_law_33 (by rw [e8]; decide) (by rw [e8]; decide) (by rw [e8]; rfl) (by decide) (lc_putOut h.2.2.2.2.2.2.2.2.1 hi hI hcont)
  by_cases e9 : x = 9
  · exact rx_tabIn 33 483 dL_law_33 (by rw [e9]; decide) (by rw [e9]; decide) (by rw [e9]; rfl) (by decide) (lc_sell h.2.2.2.2.2.2.2.2.2.1 hi hI hcont)
  by_cases e10 : x = 10
  · exact rx_tabIn 33 506 dL_law_33 (by rw [e10]; decide) (by rw [e10]; decide) (by rw [e10]; rfl) (by decide) (lc_air h.2.2.2.2.2.2.2.2.2.2.1 hi hI hcont)
  by_cases e11 : x = 11
  · exact rx_tabIn 33 529 dL_law_33 (by rw [e11]; decide) (by rw [e11]; decide) (by rw [e11]; rfl) (by decide) (lc_weeks h.2.2.2.2.2.2.2.2.2.2.2.1 hi hI hcont)
  by_cases e12 : x = 12
  · exact rx_tabIn 33 552 dL_law_33 (by rw [e12]; decide) (by rw [e12]; decide) (by rw [e12]; rfl) (by decide) (lc_undo h.2.2.2.2.2.2.2.2.2.2.2.2.1 hi hI hcont)
  by_cases e13 : x = 13
  · exact rx_tabIn 33 565 dL_law_33 (by rw [e13]; decide) (by rw [e13]; decide) (by rw [e13]; rfl) (by decide) (lc_alone h.2.2.2.2.2.2.2.2.2.2.2.2.2.1 hi hI hcont)
  by_cases e14 : x = 14
  · exact rx_tabIn 33 598 dL_law_33 (by rw [e14]; decide) (by rw [e14]; decide) (by rw [e14]; rfl) (by decide) (lc_letting h.2.2.2.2.2.2.2.2.2.2.2.2.2.2.1 hi hI hcont)
  by_cases e15 : x = 15
  · exact rx_tabIn 33 621 dL_law_33 (by rw [e15]; decide) (by rw [e15]; decide) (by rw [e15]; rfl) (by decide) (lc_fewest h.2.2.2.2.2.2.2.2.2.2.2.2.2.2.2.1 hi hI hcont)
  by_cases e16 : x = 16
  · exact rx_tabIn 33 644 dL_law_33 (by rw [e16]; decide) (by rw [e16]; decide) (by rw [e16]; rfl) (by decide) (lc_colours h.2.2.2.2.2.2.2.2.2.2.2.2.2.2.2.2.1 hi hI hcont)
  by_cases e17 : x = 17
  · exact rx_tabIn 33 657 dL_law_33 (by rw [e17]; decide) (by rw [e17]; decide) (by rw [e17]; rfl) (by decide) (lc_tangle h.2.2.2.2.2.2.2.2.2.2.2.2.2.2.2.2.2.1 hi hI hcont)
  by_cases e18 : x = 18
  · exact rx_tabIn 33 680 dL_law_33 (by rw [e18]; decide) (by rw [e18]; decide) (by rw [e18]; rfl) (by decide) (lc_fitting h.2.2.2.2.2.2.2.2.2.2.2.2.2.2.2.2.2.2.1 hi hI hcont)
  by_cases e19 : x = 19
  · exact rx_tabIn 33 703 dL_law_33 (by rw [e19]; decide) (by rw [e19]; decide) (by rw [e19]; rfl) (by decide) (lc_row h.2.2.2.2.2.2.2.2.2.2.2.2.2.2.2.2.2.2.2.1 hi hI hcont)
  by_cases e20 : x = 20
  · exact rx_tabIn 33 736 dL_law_33 (by rw [e20]; decide) (by rw [e20]; decide) (by rw [e20]; rfl) (by decide) (lc_change h.2.2.2.2.2.2.2.2.2.2.2.2.2.2.2.2.2.2.2.2.1 hi hI hcont)
  by_cases e21 : x = 21
  · exact rx_tabIn 33 769 dL_law_33 (by rw [e21]; decide) (by rw [e21]; decide) (by rw [e21]; rfl) (by decide) (lc_payer h.2.2.2.2.2.2.2.2.2.2.2.2.2.2.2.2.2.2.2.2.2.1 hi hI hcont)
  by_cases e22 : x = 22
  · exact rx_tabIn 33 792 dL_law_33 (by rw [e22]; decide) (by rw [e22]; decide) (by rw [e22]; rfl) (by decide) (lc_idle h.2.2.2.2.2.2.2.2.2.2.2.2.2.2.2.2.2.2.2.2.2.2.1 hi hI hcont)
  by_cases e23 : x = 23
  · exact rx_tabIn 33 805 dL_law_33 (by rw [e23]; decide) (by rw [e23]; decide) (by rw [e23]; rfl) (by decide) (lc_used h.2.2.2.2.2.2.2.2.2.2.2.2.2.2.2.2.2.2.2.2.2.2.2.1 hi hI hcont)
  by_cases e24 : x = 24
  · exact rx_tabIn 33 838 dL_law_33 (by rw [e24]; decide) (by rw [e24]; decide) (by rw [e24]; rfl) (by decide) (lc_first h.2.2.2.2.2.2.2.2.2.2.2.2.2.2.2.2.2.2.2.2.2.2.2.2.1 hi hI hcont)
  by_cases e25 : x = 25
  · exact rx_tabIn 33 861 dL_law_33 (by rw [e25]; decide) (by rw [e25]; decide) (by rw [e25]; rfl) (by decide) (lc_gap h.2.2.2.2.2.2.2.2.2.2.2.2.2.2.2.2.2.2.2.2.2.2.2.2.2.1 hi hI hcont)
  by_cases e26 : x = 26
  · exact rx_tabIn 33 894 dL_law_33 (by rw [e26]; decide) (by rw [e26]; decide) (by rw [e26]; rfl) (by decide) (lc_room h.2.2.2.2.2.2.2.2.2.2.2.2.2.2.2.2.2.2.2.2.2.2.2.2.2.2.1 hi hI hcont)
  by_cases e27 : x = 27
  · exact rx_tabIn 33 917 dL_law_33 (by rw [e27]; decide) (by rw [e27]; decide) (by rw [e27]; rfl) (by decide) (lc_price h.2.2.2.2.2.2.2.2.2.2.2.2.2.2.2.2.2.2.2.2.2.2.2.2.2.2.2.1 hi hI hcont)
  by_cases e28 : x = 28
  · exact rx_tabIn 33 950 dL_law_33 (by rw [e28]; decide) (by rw [e28]; decide) (by rw [e28]; rfl) (by decide) (lc_best h.2.2.2.2.2.2.2.2.2.2.2.2.2.2.2.2.2.2.2.2.2.2.2.2.2.2.2.2.1 hi hI hcont)
  by_cases e29 : x = 29
  · exact rx_tabIn 33 993 dL_law_33 (by rw [e29]; decide) (by rw [e29]; decide) (by rw [e29]; rfl) (by decide) (lc_weary h.2.2.2.2.2.2.2.2.2.2.2.2.2.2.2.2.2.2.2.2.2.2.2.2.2.2.2.2.2.1 hi hI hcont)
  by_cases e30 : x = 30
  · exact rx_tabIn 33 1016 dL_law_33 (by rw [e30]; decide) (by rw [e30]; decide) (by rw [e30]; rfl) (by decide) (lc_earned h.2.2.2.2.2.2.2.2.2.2.2.2.2.2.2.2.2.2.2.2.2.2.2.2.2.2.2.2.2.2.1 hi hI hcont)
  by_cases e31 : x = 31
  · exact rx_tabIn 33 1039 dL_law_33 (by rw [e31]; decide) (by rw [e31]; decide) (by rw [e31]; rfl) (by decide) (lc_rivals h.2.2.2.2.2.2.2.2.2.2.2.2.2.2.2.2.2.2.2.2.2.2.2.2.2.2.2.2.2.2.2.1 hi hI hcont)
  by_cases e32 : x = 32
  · exact rx_tabIn 33 1062 dL_law_33 (by rw [e32]; decide) (by rw [e32]; decide) (by rw [e32]; rfl) (by decide) (lc_then h.2.2.2.2.2.2.2.2.2.2.2.2.2.2.2.2.2.2.2.2.2.2.2.2.2.2.2.2.2.2.2.2.1 hi hI hcont)
  by_cases e33 : x = 33
  · exact rx_tabIn 33 1105 dL_law_33 (by rw [e33]; decide) (by rw [e33]; decide) (by rw [e33]; rfl) (by decide) (lc_wornIn h.2.2.2.2.2.2.2.2.2.2.2.2.2.2.2.2.2.2.2.2.2.2.2.2.2.2.2.2.2.2.2.2.2.1 hi hI hcont)
  by_cases e34 : x = 34
  · exact rx_tabIn 33 1138 dL_law_33 (by rw [e34]; decide) (by rw [e34]; decide) (by rw [e34]; rfl) (by decide) (lc_year h.2.2.2.2.2.2.2.2.2.2.2.2.2.2.2.2.2.2.2.2.2.2.2.2.2.2.2.2.2.2.2.2.2.2.1 hi hI hcont)
  by_cases e35 : x = 35
  · exact rx_tabIn 33 1181 dL_law_33 (by rw [e35]; decide) (by rw [e35]; decide) (by rw [e35]; rfl) (by decide) (lc_tell h.2.2.2.2.2.2.2.2.2.2.2.2.2.2.2.2.2.2.2.2.2.2.2.2.2.2.2.2.2.2.2.2.2.2.2.1 hi hI hcont)
  by_cases e36 : x = 36
  · exact rx_tabIn 33 1230 dL_law_33 (by rw [e36]; decide) (by rw [e36]; decide) (by rw [e36]; rfl) (by decide) (lc_forget h.2.2.2.2.2.2.2.2.2.2.2.2.2.2.2.2.2.2.2.2.2.2.2.2.2.2.2.2.2.2.2.2.2.2.2.2.1 hi hI hcont)
  by_cases e37 : x = 37
  · exact rx_tabIn 33 1243 dL_law_33 (by rw [e37]; decide) (by rw [e37]; decide) (by rw [e37]; rfl) (by decide) (lc_whose h.2.2.2.2.2.2.2.2.2.2.2.2.2.2.2.2.2.2.2.2.2.2.2.2.2.2.2.2.2.2.2.2.2.2.2.2.2.1 hi hI hcont)
  by_cases e38 : x = 38
  · exact rx_tabIn 33 1276 dL_law_33 (by rw [e38]; decide) (by rw [e38]; decide) (by rw [e38]; rfl) (by decide) (lc_look h.2.2.2.2.2.2.2.2.2.2.2.2.2.2.2.2.2.2.2.2.2.2.2.2.2.2.2.2.2.2.2.2.2.2.2.2.2.2.1 hi hI hcont)
  by_cases e39 : x = 39
  · exact rx_tabIn 33 1299 dL_law_33 (by rw [e39]; decide) (by rw [e39]; decide) (by rw [e39]; rfl) (by decide) (lc_hold h.2.2.2.2.2.2.2.2.2.2.2.2.2.2.2.2.2.2.2.2.2.2.2.2.2.2.2.2.2.2.2.2.2.2.2.2.2.2.2.1 hi hI hcont)
  by_cases e40 : x = 40
  · exact rx_tabIn 33 1322 dL_law_33 (by rw [e40]; decide) (by rw [e40]; decide) (by rw [e40]; rfl) (by decide) (lc_restore h.2.2.2.2.2.2.2.2.2.2.2.2.2.2.2.2.2.2.2.2.2.2.2.2.2.2.2.2.2.2.2.2.2.2.2.2.2.2.2.2.1 hi hI hcont)
  by_cases e41 : x = 41
  · exact rx_tabIn 33 1345 dL_law_33 (by rw [e41]; decide) (by rw [e41]; decide) (by rw [e41]; rfl) (by decide) (lc_count h.2.2.2.2.2.2.2.2.2.2.2.2.2.2.2.2.2.2.2.2.2.2.2.2.2.2.2.2.2.2.2.2.2.2.2.2.2.2.2.2.2 hi hI hcont)
  refine rx_tabOut 33 1368 dL_law_33 ?_ (by decide) (hcont μ hI)
  have := ne_int e0 (k := 0) (by decide)
  have := ne_int e1 (k := 1) (by decide)
  have := ne_int e2 (k := 2) (by decide)
  have := ne_int e3 (k := 3) (by decide)
  have := ne_int e4 (k := 4) (by decide)
  have := ne_int e5 (k := 5) (by decide)
  have := ne_int e6 (k := 6) (by decide)
  have := ne_int e7 (k := 7) (by decide)
  have := ne_int e8 (k := 8) (by decide)
  have := ne_int e9 (k := 9) (by decide)
  have := ne_int e10 (k := 10) (by decide)
  have := ne_int e11 (k := 11) (by decide)
  have := ne_int e12 (k := 12) (by decide)
  have := ne_int e13 (k := 13) (by decide)
  have := ne_int e14 (k := 14) (by decide)
  have := ne_int e15 (k := 15) (by decide)
  have := ne_int e16 (k := 16) (by decide)
  have := ne_int e17 (k := 17) (by decide)
  have := ne_int e18 (k := 18) (by decide)
  have := ne_int e19 (k := 19) (by decide)
  have := ne_int e20 (k := 20) (by decide)
  have := ne_int e21 (k := 21) (by decide)
  have := ne_int e22 (k := 22) (by decide)
  have := ne_int e23 (k := 23) (by decide)
  have := ne_int e24 (k := 24) (by decide)
  have := ne_int e25 (k := 25) (by decide)
  have := ne_int e26 (k := 26) (by decide)
  have := ne_int e27 (k := 27) (by decide)
  have := ne_int e28 (k := 28) (by decide)
  have := ne_int e29 (k := 29) (by decide)
  have := ne_int e30 (k := 30) (by decide)
  have := ne_int e31 (k := 31) (by decide)
  have := ne_int e32 (k := 32) (by decide)
  have := ne_int e33 (k := 33) (by decide)
  have := ne_int e34 (k := 34) (by decide)
  have := ne_int e35 (k := 35) (by decide)
  have := ne_int e36 (k := 36) (by decide)
  have := ne_int e37 (k := 37) (by decide)
  have := ne_int e38 (k := 38) (by decide)
  have := ne_int e39 (k := 39) (by decide)
  have := ne_int e40 (k := 40) (by decide)
  have := ne_int e41 (k := 41) (by decide)
  omega
theorem nI_toI {n : Nat} (h : n < 2 ^ 31) : (nI n).toInt = (n : Int) := nI_toInt h
set_option maxRecDepth 100000 in
theorem law_loop {Inv : Mem → Prop} (h : STEPS Inv) {Ls : Nat} {xs : Nat → Int32} (hLs : Ls ≤ 3072) : ∀ (n j : Nat) (μ : Mem), j ≤ Ls → Ls < j + 6 * n → Inv μ → RX (PX Ls xs) mL 1000 0 NF 18 (LL j) [] (μ, Rf0, NF) QL := by
  intro n
  induction n with
  | zero => intro j μ h1 h2; omega
  | succ n ih =>
    intro j μ h1 h2 hI
    have hsub : (nI Ls - 6 : Int32).toInt = (Ls : Int) - 6 := pk_sub_toInt (a := Ls) (b := 6) (by omega) (by omega)
    refine rx_iload_n 18 dL_law_18 3 rfl ?_
    refine rx_aload_n 19 dL_law_19 0 rfl ?_
    refine rx_slen 20 dL_law_20 ?_
    refine rx_bipush 21 (v := 6) dL_law_21 (by decide) ?_
    refine rx_isub 23 dL_law_23 ?_
    refine rx_icmp_gt 24 1374 dL_law_24 (by decide) (fun _ => ?_) (fun c => ?_)
    · refine rx_iconst 1374 (v := 1) dL_law_1374 (by decide) ?_
      exact rx_zret 1375 (ty := .boolean) dL_law_1375 rfl rfl rfl rfl
    · have hj : j + 6 ≤ Ls := by
        rw [Int32.lt_iff_toInt_lt, hsub, nI_toInt (by omega)] at c
        omega
      have hi : ∀ c : Nat, c < 6 → inb (nI j + nI c) Ls := fun c hc => by
        rw [nI_add]
        exact nI_in (by omega) (by omega)
      refine rx_aload_n 27 dL_law_27 0 rfl ?_
      refine rx_iload_n 28 dL_law_28 3 rfl ?_
      refine rx_sld 29 dL_law_29 (nI_in (by omega) (by omega)) ?_
      refine rx_bipush 30 (v := 63) dL_law_30 (by decide) ?_
      refine rx_iand 32 dL_law_32 ?_
      refine law_sw h hi hI (fun μ2 hI2 => ?_) _
      refine rx_iinc 1368 (LL (j + 6)) dL_law_1368 3 rfl (v := nI (j + 6)) (by rw [← nI_add]; rfl) (by decide) rfl ?_
      refine rx_goto 1371 18 dL_law_1371 (by decide) ?_
      exact ih (j + 6) μ2 (by omega) (by omega) hI2
