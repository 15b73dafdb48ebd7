/-! THE LAW'S LOOP: a case a method -/
abbrev mLw (nm : String) : MR := (⟨RL, nm, "([I)Z"⟩, cL_law, 4, some .boolean)
abbrev LL (i : Nat) : List (Nat × MV) := [(3, .inl (nI i)), (2, .inr (.inr (some 94))), (1, .inr (.inr (some 0))), (0, .inr (.inr (some (FB + 0))))]
def QL1 : Option MV → List Sh → Hp → Prop := fun v _ _ => v = some (.inl 1)
theorem ixs {i j : Nat} (h : i + j < 100000) : (nI i + nI j).toNatClampNeg = i + j ∧ ∀ n, i + j < n → vp_in (nI i + nI j) n := by
  have e : (nI i + nI j).toInt = ((i + j : Nat) : Int) := by
    rw [ti_add (by rw [ti_nI (by omega), ti_nI (by omega)]; omega) (by rw [ti_nI (by omega), ti_nI (by omega)]; omega), ti_nI (by omega), ti_nI (by omega)]
    push_cast
    rfl
  exact ⟨cl_of e, fun n hn => in_of (by omega) (by omega)⟩
section
variable {G : GT} {nm : String} {i : Nat} {h : Hp}
set_option maxHeartbeats 4000000 in
theorem lc_party (I : Inv h) (hi : i + 6 ≤ gn G) (hg : gn G ≤ 3072) (K : ∀ h', Inv h' → Rn G 2000 0 0 (mLw nm) 1503 (LL i) [] SH h' QL1) : Rn G 2000 0 0 (mLw nm) 204 (LL i) [] SH h QL1 := by
  refine rn_aload_n dL_law_204 rfl rfl ?_
  refine rn_aload_n dL_law_205 rfl rfl ?_
  refine rn_iload_n dL_law_206 rfl rfl ?_
  refine rn_iconst (v := nI 1) dL_law_207 (by decide) ?_
  refine rn_iadd dL_law_208 ?_
  refine rn_ialdS (k := i + 1) dL_law_209 (ixs (by omega)).1 ((ixs (by omega)).2 _ (by omega)) ?_
  refine rn_aload_n dL_law_210 rfl rfl ?_
  refine rn_iload_n dL_law_211 rfl rfl ?_
  refine rn_iconst (v := nI 2) dL_law_212 (by decide) ?_
  refine rn_iadd dL_law_213 ?_
  refine rn_ialdS (k := i + 2) dL_law_214 (ixs (by omega)).1 ((ixs (by omega)).2 _ (by omega)) ?_
  refine rn_cV (M' := mX11_party) (n := 2) (av := [.inl (gx G (i + 1)), .inl (gx G (i + 2))]) (S := []) (rc := 0) (rs := 0) (mc := 0) (ms := 0) (a := 0) (ci := 10) (r := (RX11, TX11, 12)) (d' := 1999) dL_law_215 pa_X11_party (Nat.le_refl _) rfl (Nat.le_of_ble_eq_true rfl) ml_L_13 im_X11_party se_X11_party rfl rfl rfl (Ev.mono (step_party I (by omega)) ?_)
  rintro v sh1 h1 ⟨rfl, -, x, rfl, E2⟩
  show Rn G 2000 0 0 (mLw nm) 218 (LL i) [.inl x] SH h1 QL1
  refine rn_aload_n dL_law_218 rfl rfl ?_
  refine rn_aload_n dL_law_219 rfl rfl ?_
  refine rn_iload_n dL_law_220 rfl rfl ?_
  refine rn_iconst (v := nI 1) dL_law_221 (by decide) ?_
  refine rn_iadd dL_law_222 ?_
  refine rn_ialdS (k := i + 1) dL_law_223 (ixs (by omega)).1 ((ixs (by omega)).2 _ (by omega)) ?_
  refine rn_aload_n dL_law_224 rfl rfl ?_
  refine rn_iload_n dL_law_225 rfl rfl ?_
  refine rn_iconst (v := nI 2) dL_law_226 (by decide) ?_
  refine rn_iadd dL_law_227 ?_
  refine rn_ialdS (k := i + 2) dL_law_228 (ixs (by omega)).1 ((ixs (by omega)).2 _ (by omega)) ?_
  refine rn_cV (M' := mX12_party) (n := 2) (av := [.inl (gx G (i + 1)), .inl (gx G (i + 2))]) (S := [.inl x]) (rc := 0) (rs := 0) (mc := 0) (ms := 0) (a := 94) (ci := 11) (r := (RX12, TX12, 38)) (d' := 1999) dL_law_229 pa_X12_party (Nat.le_refl _) rfl (Nat.le_of_ble_eq_true rfl) ml_L_17 im_X12_party se_X12_party rfl rfl rfl (Ev.mono (E2) ?_)
  rintro v sh2 h2 ⟨rfl, -, y, rfl, hxy, I2⟩
  show Rn G 2000 0 0 (mLw nm) 232 (LL i) [.inl y, .inl x] SH h2 QL1
  exact rn_icmp_eq (tgt := 1503) dL_law_232 (by decide) (fun _ => K h2 I2) (fun z => absurd hxy z)
set_option maxHeartbeats 4000000 in
theorem lc_ofParty (I : Inv h) (hi : i + 6 ≤ gn G) (hg : gn G ≤ 3072) (K : ∀ h', Inv h' → Rn G 2000 0 0 (mLw nm) 1503 (LL i) [] SH h' QL1) : Rn G 2000 0 0 (mLw nm) 237 (LL i) [] SH h QL1 := by
  refine rn_aload_n dL_law_237 rfl rfl ?_
  refine rn_aload_n dL_law_238 rfl rfl ?_
  refine rn_iload_n dL_law_239 rfl rfl ?_
  refine rn_iconst (v := nI 1) dL_law_240 (by decide) ?_
  refine rn_iadd dL_law_241 ?_
  refine rn_ialdS (k := i + 1) dL_law_242 (ixs (by omega)).1 ((ixs (by omega)).2 _ (by omega)) ?_
  refine rn_aload_n dL_law_243 rfl rfl ?_
  refine rn_iload_n dL_law_244 rfl rfl ?_
  refine rn_iconst (v := nI 2) dL_law_245 (by decide) ?_
  refine rn_iadd dL_law_246 ?_
  refine rn_ialdS (k := i + 2) dL_law_247 (ixs (by omega)).1 ((ixs (by omega)).2 _ (by omega)) ?_
  refine rn_cV (M' := mX11_ofParty) (n := 2) (av := [.inl (gx G (i + 1)), .inl (gx G (i + 2))]) (S := []) (rc := 0) (rs := 0) (mc := 0) (ms := 0) (a := 0) (ci := 10) (r := (RX11, TX11, 12)) (d' := 1999) dL_law_248 pa_X11_ofParty (Nat.le_refl _) rfl (Nat.le_of_ble_eq_true rfl) ml_L_18 im_X11_ofParty se_X11_ofParty rfl rfl rfl (Ev.mono (step_ofParty I (by omega)) ?_)
  rintro v sh1 h1 ⟨rfl, -, x, rfl, E2⟩
  show Rn G 2000 0 0 (mLw nm) 251 (LL i) [.inl x] SH h1 QL1
  refine rn_aload_n dL_law_251 rfl rfl ?_
  refine rn_aload_n dL_law_252 rfl rfl ?_
  refine rn_iload_n dL_law_253 rfl rfl ?_
  refine rn_iconst (v := nI 1) dL_law_254 (by decide) ?_
  refine rn_iadd dL_law_255 ?_
  refine rn_ialdS (k := i + 1) dL_law_256 (ixs (by omega)).1 ((ixs (by omega)).2 _ (by omega)) ?_
  refine rn_aload_n dL_law_257 rfl rfl ?_
  refine rn_iload_n dL_law_258 rfl rfl ?_
  refine rn_iconst (v := nI 2) dL_law_259 (by decide) ?_
  refine rn_iadd dL_law_260 ?_
  refine rn_ialdS (k := i + 2) dL_law_261 (ixs (by omega)).1 ((ixs (by omega)).2 _ (by omega)) ?_
  refine rn_cV (M' := mX12_ofParty) (n := 2) (av := [.inl (gx G (i + 1)), .inl (gx G (i + 2))]) (S := [.inl x]) (rc := 0) (rs := 0) (mc := 0) (ms := 0) (a := 94) (ci := 11) (r := (RX12, TX12, 38)) (d' := 1999) dL_law_262 pa_X12_ofParty (Nat.le_refl _) rfl (Nat.le_of_ble_eq_true rfl) ml_L_21 im_X12_ofParty se_X12_ofParty rfl rfl rfl (Ev.mono (E2) ?_)
  rintro v sh2 h2 ⟨rfl, -, y, rfl, hxy, I2⟩
  show Rn G 2000 0 0 (mLw nm) 265 (LL i) [.inl y, .inl x] SH h2 QL1
  exact rn_icmp_eq (tgt := 1503) dL_law_265 (by decide) (fun _ => K h2 I2) (fun z => absurd hxy z)
set_option maxHeartbeats 4000000 in
theorem lc_become (I : Inv h) (hi : i + 6 ≤ gn G) (hg : gn G ≤ 3072) (K : ∀ h', Inv h' → Rn G 2000 0 0 (mLw nm) 1503 (LL i) [] SH h' QL1) : Rn G 2000 0 0 (mLw nm) 270 (LL i) [] SH h QL1 := by
  refine rn_aload_n dL_law_270 rfl rfl ?_
  refine rn_aload_n dL_law_271 rfl rfl ?_
  refine rn_iload_n dL_law_272 rfl rfl ?_
  refine rn_iconst (v := nI 1) dL_law_273 (by decide) ?_
  refine rn_iadd dL_law_274 ?_
  refine rn_ialdS (k := i + 1) dL_law_275 (ixs (by omega)).1 ((ixs (by omega)).2 _ (by omega)) ?_
  refine rn_aload_n dL_law_276 rfl rfl ?_
  refine rn_iload_n dL_law_277 rfl rfl ?_
  refine rn_iconst (v := nI 2) dL_law_278 (by decide) ?_
  refine rn_iadd dL_law_279 ?_
  refine rn_ialdS (k := i + 2) dL_law_280 (ixs (by omega)).1 ((ixs (by omega)).2 _ (by omega)) ?_
  refine rn_cV (M' := mX11_become) (n := 2) (av := [.inl (gx G (i + 1)), .inl (gx G (i + 2))]) (S := []) (rc := 0) (rs := 0) (mc := 0) (ms := 0) (a := 0) (ci := 10) (r := (RX11, TX11, 12)) (d' := 1999) dL_law_281 pa_X11_become (Nat.le_refl _) rfl (Nat.le_of_ble_eq_true rfl) ml_L_22 im_X11_become se_X11_become rfl rfl rfl (Ev.mono (step_become I (by omega)) ?_)
  rintro v sh1 h1 ⟨rfl, -, x, rfl, E2⟩
  show Rn G 2000 0 0 (mLw nm) 284 (LL i) [.inl x] SH h1 QL1
  refine rn_aload_n dL_law_284 rfl rfl ?_
  refine rn_aload_n dL_law_285 rfl rfl ?_
  refine rn_iload_n dL_law_286 rfl rfl ?_
  refine rn_iconst (v := nI 1) dL_law_287 (by decide) ?_
  refine rn_iadd dL_law_288 ?_
  refine rn_ialdS (k := i + 1) dL_law_289 (ixs (by omega)).1 ((ixs (by omega)).2 _ (by omega)) ?_
  refine rn_aload_n dL_law_290 rfl rfl ?_
  refine rn_iload_n dL_law_291 rfl rfl ?_
  refine rn_iconst (v := nI 2) dL_law_292 (by decide) ?_
  refine rn_iadd dL_law_293 ?_
  refine rn_ialdS (k := i + 2) dL_law_294 (ixs (by omega)).1 ((ixs (by omega)).2 _ (by omega)) ?_
  refine rn_cV (M' := mX12_become) (n := 2) (av := [.inl (gx G (i + 1)), .inl (gx G (i + 2))]) (S := [.inl x]) (rc := 0) (rs := 0) (mc := 0) (ms := 0) (a := 94) (ci := 11) (r := (RX12, TX12, 38)) (d' := 1999) dL_law_295 pa_X12_become (Nat.le_refl _) rfl (Nat.le_of_ble_eq_true rfl) ml_L_25 im_X12_become se_X12_become rfl rfl rfl (Ev.mono (E2) ?_)
  rintro v sh2 h2 ⟨rfl, -, y, rfl, hxy, I2⟩
  show Rn G 2000 0 0 (mLw nm) 298 (LL i) [.inl y, .inl x] SH h2 QL1
  exact rn_icmp_eq (tgt := 1503) dL_law_298 (by decide) (fun _ => K h2 I2) (fun z => absurd hxy z)
set_option maxHeartbeats 4000000 in
theorem lc_as (I : Inv h) (hi : i + 6 ≤ gn G) (hg : gn G ≤ 3072) (K : ∀ h', Inv h' → Rn G 2000 0 0 (mLw nm) 1503 (LL i) [] SH h' QL1) : Rn G 2000 0 0 (mLw nm) 303 (LL i) [] SH h QL1 := by
  refine rn_aload_n dL_law_303 rfl rfl ?_
  refine rn_aload_n dL_law_304 rfl rfl ?_
  refine rn_iload_n dL_law_305 rfl rfl ?_
  refine rn_iconst (v := nI 1) dL_law_306 (by decide) ?_
  refine rn_iadd dL_law_307 ?_
  refine rn_ialdS (k := i + 1) dL_law_308 (ixs (by omega)).1 ((ixs (by omega)).2 _ (by omega)) ?_
  refine rn_aload_n dL_law_309 rfl rfl ?_
  refine rn_iload_n dL_law_310 rfl rfl ?_
  refine rn_iconst (v := nI 2) dL_law_311 (by decide) ?_
  refine rn_iadd dL_law_312 ?_
  refine rn_ialdS (k := i + 2) dL_law_313 (ixs (by omega)).1 ((ixs (by omega)).2 _ (by omega)) ?_
  refine rn_cV (M' := mX11_as) (n := 2) (av := [.inl (gx G (i + 1)), .inl (gx G (i + 2))]) (S := []) (rc := 0) (rs := 0) (mc := 0) (ms := 0) (a := 0) (ci := 10) (r := (RX11, TX11, 12)) (d' := 1999) dL_law_314 pa_X11_as (Nat.le_refl _) rfl (Nat.le_of_ble_eq_true rfl) ml_L_26 im_X11_as se_X11_as rfl rfl rfl (Ev.mono (step_as I (by omega)) ?_)
  rintro v sh1 h1 ⟨rfl, -, x, rfl, E2⟩
  show Rn G 2000 0 0 (mLw nm) 317 (LL i) [.inl x] SH h1 QL1
  refine rn_aload_n dL_law_317 rfl rfl ?_
  refine rn_aload_n dL_law_318 rfl rfl ?_
  refine rn_iload_n dL_law_319 rfl rfl ?_
  refine rn_iconst (v := nI 1) dL_law_320 (by decide) ?_
  refine rn_iadd dL_law_321 ?_
  refine rn_ialdS (k := i + 1) dL_law_322 (ixs (by omega)).1 ((ixs (by omega)).2 _ (by omega)) ?_
  refine rn_aload_n dL_law_323 rfl rfl ?_
  refine rn_iload_n dL_law_324 rfl rfl ?_
  refine rn_iconst (v := nI 2) dL_law_325 (by decide) ?_
  refine rn_iadd dL_law_326 ?_
  refine rn_ialdS (k := i + 2) dL_law_327 (ixs (by omega)).1 ((ixs (by omega)).2 _ (by omega)) ?_
  refine rn_cV (M' := mX12_as) (n := 2) (av := [.inl (gx G (i + 1)), .inl (gx G (i + 2))]) (S := [.inl x]) (rc := 0) (rs := 0) (mc := 0) (ms := 0) (a := 94) (ci := 11) (r := (RX12, TX12, 38)) (d' := 1999) dL_law_328 pa_X12_as (Nat.le_refl _) rfl (Nat.le_of_ble_eq_true rfl) ml_L_29 im_X12_as se_X12_as rfl rfl rfl (Ev.mono (E2) ?_)
  rintro v sh2 h2 ⟨rfl, -, y, rfl, hxy, I2⟩
  show Rn G 2000 0 0 (mLw nm) 331 (LL i) [.inl y, .inl x] SH h2 QL1
  exact rn_icmp_eq (tgt := 1503) dL_law_331 (by decide) (fun _ => K h2 I2) (fun z => absurd hxy z)
set_option maxHeartbeats 4000000 in
theorem lc_word (I : Inv h) (hi : i + 6 ≤ gn G) (hg : gn G ≤ 3072) (K : ∀ h', Inv h' → Rn G 2000 0 0 (mLw nm) 1503 (LL i) [] SH h' QL1) : Rn G 2000 0 0 (mLw nm) 336 (LL i) [] SH h QL1 := by
  refine rn_aload_n dL_law_336 rfl rfl ?_
  refine rn_aload_n dL_law_337 rfl rfl ?_
  refine rn_iload_n dL_law_338 rfl rfl ?_
  refine rn_iconst (v := nI 1) dL_law_339 (by decide) ?_
  refine rn_iadd dL_law_340 ?_
  refine rn_ialdS (k := i + 1) dL_law_341 (ixs (by omega)).1 ((ixs (by omega)).2 _ (by omega)) ?_
  refine rn_aload_n dL_law_342 rfl rfl ?_
  refine rn_iload_n dL_law_343 rfl rfl ?_
  refine rn_iconst (v := nI 2) dL_law_344 (by decide) ?_
  refine rn_iadd dL_law_345 ?_
  refine rn_ialdS (k := i + 2) dL_law_346 (ixs (by omega)).1 ((ixs (by omega)).2 _ (by omega)) ?_
  refine rn_aload_n dL_law_347 rfl rfl ?_
  refine rn_iload_n dL_law_348 rfl rfl ?_
  refine rn_iconst (v := nI 3) dL_law_349 (by decide) ?_
  refine rn_iadd dL_law_350 ?_
  refine rn_ialdS (k := i + 3) dL_law_351 (ixs (by omega)).1 ((ixs (by omega)).2 _ (by omega)) ?_
  refine rn_aload_n dL_law_352 rfl rfl ?_
  refine rn_iload_n dL_law_353 rfl rfl ?_
  refine rn_iconst (v := nI 4) dL_law_354 (by decide) ?_
  refine rn_iadd dL_law_355 ?_
  refine rn_ialdS (k := i + 4) dL_law_356 (ixs (by omega)).1 ((ixs (by omega)).2 _ (by omega)) ?_
  refine rn_cV (M' := mX11_word) (n := 4) (av := [.inl (gx G (i + 1)), .inl (gx G (i + 2)), .inl (gx G (i + 3)), .inl (gx G (i + 4))]) (S := []) (rc := 0) (rs := 0) (mc := 0) (ms := 0) (a := 0) (ci := 10) (r := (RX11, TX11, 12)) (d' := 1999) dL_law_357 pa_X11_word (Nat.le_refl _) rfl (Nat.le_of_ble_eq_true rfl) ml_L_30 im_X11_word se_X11_word rfl rfl rfl (Ev.mono (step_word I (by omega)) ?_)
  rintro v sh1 h1 ⟨rfl, -, x, rfl, E2⟩
  show Rn G 2000 0 0 (mLw nm) 360 (LL i) [.inl x] SH h1 QL1
  refine rn_aload_n dL_law_360 rfl rfl ?_
  refine rn_aload_n dL_law_361 rfl rfl ?_
  refine rn_iload_n dL_law_362 rfl rfl ?_
  refine rn_iconst (v := nI 1) dL_law_363 (by decide) ?_
  refine rn_iadd dL_law_364 ?_
  refine rn_ialdS (k := i + 1) dL_law_365 (ixs (by omega)).1 ((ixs (by omega)).2 _ (by omega)) ?_
  refine rn_aload_n dL_law_366 rfl rfl ?_
  refine rn_iload_n dL_law_367 rfl rfl ?_
  refine rn_iconst (v := nI 2) dL_law_368 (by decide) ?_
  refine rn_iadd dL_law_369 ?_
  refine rn_ialdS (k := i + 2) dL_law_370 (ixs (by omega)).1 ((ixs (by omega)).2 _ (by omega)) ?_
  refine rn_aload_n dL_law_371 rfl rfl ?_
  refine rn_iload_n dL_law_372 rfl rfl ?_
  refine rn_iconst (v := nI 3) dL_law_373 (by decide) ?_
  refine rn_iadd dL_law_374 ?_
  refine rn_ialdS (k := i + 3) dL_law_375 (ixs (by omega)).1 ((ixs (by omega)).2 _ (by omega)) ?_
  refine rn_aload_n dL_law_376 rfl rfl ?_
  refine rn_iload_n dL_law_377 rfl rfl ?_
  refine rn_iconst (v := nI 4) dL_law_378 (by decide) ?_
  refine rn_iadd dL_law_379 ?_
  refine rn_ialdS (k := i + 4) dL_law_380 (ixs (by omega)).1 ((ixs (by omega)).2 _ (by omega)) ?_
  refine rn_cV (M' := mX12_word) (n := 4) (av := [.inl (gx G (i + 1)), .inl (gx G (i + 2)), .inl (gx G (i + 3)), .inl (gx G (i + 4))]) (S := [.inl x]) (rc := 0) (rs := 0) (mc := 0) (ms := 0) (a := 94) (ci := 11) (r := (RX12, TX12, 38)) (d' := 1999) dL_law_381 pa_X12_word (Nat.le_refl _) rfl (Nat.le_of_ble_eq_true rfl) ml_L_34 im_X12_word se_X12_word rfl rfl rfl (Ev.mono (E2) ?_)
  rintro v sh2 h2 ⟨rfl, -, y, rfl, hxy, I2⟩
  show Rn G 2000 0 0 (mLw nm) 384 (LL i) [.inl y, .inl x] SH h2 QL1
  exact rn_icmp_eq (tgt := 1503) dL_law_384 (by decide) (fun _ => K h2 I2) (fun z => absurd hxy z)
set_option maxHeartbeats 4000000 in
theorem lc_ofWord (I : Inv h) (hi : i + 6 ≤ gn G) (hg : gn G ≤ 3072) (K : ∀ h', Inv h' → Rn G 2000 0 0 (mLw nm) 1503 (LL i) [] SH h' QL1) : Rn G 2000 0 0 (mLw nm) 389 (LL i) [] SH h QL1 := by
  refine rn_aload_n dL_law_389 rfl rfl ?_
  refine rn_aload_n dL_law_390 rfl rfl ?_
  refine rn_iload_n dL_law_391 rfl rfl ?_
  refine rn_iconst (v := nI 1) dL_law_392 (by decide) ?_
  refine rn_iadd dL_law_393 ?_
  refine rn_ialdS (k := i + 1) dL_law_394 (ixs (by omega)).1 ((ixs (by omega)).2 _ (by omega)) ?_
  refine rn_aload_n dL_law_395 rfl rfl ?_
  refine rn_iload_n dL_law_396 rfl rfl ?_
  refine rn_iconst (v := nI 2) dL_law_397 (by decide) ?_
  refine rn_iadd dL_law_398 ?_
  refine rn_ialdS (k := i + 2) dL_law_399 (ixs (by omega)).1 ((ixs (by omega)).2 _ (by omega)) ?_
  refine rn_cV (M' := mX11_ofWord) (n := 2) (av := [.inl (gx G (i + 1)), .inl (gx G (i + 2))]) (S := []) (rc := 0) (rs := 0) (mc := 0) (ms := 0) (a := 0) (ci := 10) (r := (RX11, TX11, 12)) (d' := 1999) dL_law_400 pa_X11_ofWord (Nat.le_refl _) rfl (Nat.le_of_ble_eq_true rfl) ml_L_35 im_X11_ofWord se_X11_ofWord rfl rfl rfl (Ev.mono (step_ofWord I (by omega)) ?_)
  rintro v sh1 h1 ⟨rfl, -, x, rfl, E2⟩
  show Rn G 2000 0 0 (mLw nm) 403 (LL i) [.inl x] SH h1 QL1
  refine rn_aload_n dL_law_403 rfl rfl ?_
  refine rn_aload_n dL_law_404 rfl rfl ?_
  refine rn_iload_n dL_law_405 rfl rfl ?_
  refine rn_iconst (v := nI 1) dL_law_406 (by decide) ?_
  refine rn_iadd dL_law_407 ?_
  refine rn_ialdS (k := i + 1) dL_law_408 (ixs (by omega)).1 ((ixs (by omega)).2 _ (by omega)) ?_
  refine rn_aload_n dL_law_409 rfl rfl ?_
  refine rn_iload_n dL_law_410 rfl rfl ?_
  refine rn_iconst (v := nI 2) dL_law_411 (by decide) ?_
  refine rn_iadd dL_law_412 ?_
  refine rn_ialdS (k := i + 2) dL_law_413 (ixs (by omega)).1 ((ixs (by omega)).2 _ (by omega)) ?_
  refine rn_cV (M' := mX12_ofWord) (n := 2) (av := [.inl (gx G (i + 1)), .inl (gx G (i + 2))]) (S := [.inl x]) (rc := 0) (rs := 0) (mc := 0) (ms := 0) (a := 94) (ci := 11) (r := (RX12, TX12, 38)) (d' := 1999) dL_law_414 pa_X12_ofWord (Nat.le_refl _) rfl (Nat.le_of_ble_eq_true rfl) ml_L_38 im_X12_ofWord se_X12_ofWord rfl rfl rfl (Ev.mono (E2) ?_)
  rintro v sh2 h2 ⟨rfl, -, y, rfl, hxy, I2⟩
  show Rn G 2000 0 0 (mLw nm) 417 (LL i) [.inl y, .inl x] SH h2 QL1
  exact rn_icmp_eq (tgt := 1503) dL_law_417 (by decide) (fun _ => K h2 I2) (fun z => absurd hxy z)
set_option maxHeartbeats 4000000 in
theorem lc_set (I : Inv h) (hi : i + 6 ≤ gn G) (hg : gn G ≤ 3072) (K : ∀ h', Inv h' → Rn G 2000 0 0 (mLw nm) 1503 (LL i) [] SH h' QL1) : Rn G 2000 0 0 (mLw nm) 422 (LL i) [] SH h QL1 := by
  refine rn_aload_n dL_law_422 rfl rfl ?_
  refine rn_aload_n dL_law_423 rfl rfl ?_
  refine rn_iload_n dL_law_424 rfl rfl ?_
  refine rn_iconst (v := nI 1) dL_law_425 (by decide) ?_
  refine rn_iadd dL_law_426 ?_
  refine rn_ialdS (k := i + 1) dL_law_427 (ixs (by omega)).1 ((ixs (by omega)).2 _ (by omega)) ?_
  refine rn_aload_n dL_law_428 rfl rfl ?_
  refine rn_iload_n dL_law_429 rfl rfl ?_
  refine rn_iconst (v := nI 2) dL_law_430 (by decide) ?_
  refine rn_iadd dL_law_431 ?_
  refine rn_ialdS (k := i + 2) dL_law_432 (ixs (by omega)).1 ((ixs (by omega)).2 _ (by omega)) ?_
  refine rn_aload_n dL_law_433 rfl rfl ?_
  refine rn_iload_n dL_law_434 rfl rfl ?_
  refine rn_iconst (v := nI 3) dL_law_435 (by decide) ?_
  refine rn_iadd dL_law_436 ?_
  refine rn_ialdS (k := i + 3) dL_law_437 (ixs (by omega)).1 ((ixs (by omega)).2 _ (by omega)) ?_
  refine rn_cV (M' := mX11_set) (n := 3) (av := [.inl (gx G (i + 1)), .inl (gx G (i + 2)), .inl (gx G (i + 3))]) (S := []) (rc := 0) (rs := 0) (mc := 0) (ms := 0) (a := 0) (ci := 10) (r := (RX11, TX11, 12)) (d' := 1999) dL_law_438 pa_X11_set (Nat.le_refl _) rfl (Nat.le_of_ble_eq_true rfl) ml_L_39 im_X11_set se_X11_set rfl rfl rfl (Ev.mono (step_set I (by omega)) ?_)
  rintro v sh1 h1 ⟨rfl, -, x, rfl, E2⟩
  show Rn G 2000 0 0 (mLw nm) 441 (LL i) [.inl x] SH h1 QL1
  refine rn_aload_n dL_law_441 rfl rfl ?_
  refine rn_aload_n dL_law_442 rfl rfl ?_
  refine rn_iload_n dL_law_443 rfl rfl ?_
  refine rn_iconst (v := nI 1) dL_law_444 (by decide) ?_
  refine rn_iadd dL_law_445 ?_
  refine rn_ialdS (k := i + 1) dL_law_446 (ixs (by omega)).1 ((ixs (by omega)).2 _ (by omega)) ?_
  refine rn_aload_n dL_law_447 rfl rfl ?_
  refine rn_iload_n dL_law_448 rfl rfl ?_
  refine rn_iconst (v := nI 2) dL_law_449 (by decide) ?_
  refine rn_iadd dL_law_450 ?_
  refine rn_ialdS (k := i + 2) dL_law_451 (ixs (by omega)).1 ((ixs (by omega)).2 _ (by omega)) ?_
  refine rn_aload_n dL_law_452 rfl rfl ?_
  refine rn_iload_n dL_law_453 rfl rfl ?_
  refine rn_iconst (v := nI 3) dL_law_454 (by decide) ?_
  refine rn_iadd dL_law_455 ?_
  refine rn_ialdS (k := i + 3) dL_law_456 (ixs (by omega)).1 ((ixs (by omega)).2 _ (by omega)) ?_
  refine rn_cV (M' := mX12_set) (n := 3) (av := [.inl (gx G (i + 1)), .inl (gx G (i + 2)), .inl (gx G (i + 3))]) (S := [.inl x]) (rc := 0) (rs := 0) (mc := 0) (ms := 0) (a := 94) (ci := 11) (r := (RX12, TX12, 38)) (d' := 1999) dL_law_457 pa_X12_set (Nat.le_refl _) rfl (Nat.le_of_ble_eq_true rfl) ml_L_43 im_X12_set se_X12_set rfl rfl rfl (Ev.mono (E2) ?_)
  rintro v sh2 h2 ⟨rfl, -, y, rfl, hxy, I2⟩
  show Rn G 2000 0 0 (mLw nm) 460 (LL i) [.inl y, .inl x] SH h2 QL1
  exact rn_icmp_eq (tgt := 1503) dL_law_460 (by decide) (fun _ => K h2 I2) (fun z => absurd hxy z)
set_option maxHeartbeats 4000000 in
theorem lc_fetch (I : Inv h) (hi : i + 6 ≤ gn G) (hg : gn G ≤ 3072) (K : ∀ h', Inv h' → Rn G 2000 0 0 (mLw nm) 1503 (LL i) [] SH h' QL1) : Rn G 2000 0 0 (mLw nm) 465 (LL i) [] SH h QL1 := by
  refine rn_aload_n dL_law_465 rfl rfl ?_
  refine rn_aload_n dL_law_466 rfl rfl ?_
  refine rn_iload_n dL_law_467 rfl rfl ?_
  refine rn_iconst (v := nI 1) dL_law_468 (by decide) ?_
  refine rn_iadd dL_law_469 ?_
  refine rn_ialdS (k := i + 1) dL_law_470 (ixs (by omega)).1 ((ixs (by omega)).2 _ (by omega)) ?_
  refine rn_aload_n dL_law_471 rfl rfl ?_
  refine rn_iload_n dL_law_472 rfl rfl ?_
  refine rn_iconst (v := nI 2) dL_law_473 (by decide) ?_
  refine rn_iadd dL_law_474 ?_
  refine rn_ialdS (k := i + 2) dL_law_475 (ixs (by omega)).1 ((ixs (by omega)).2 _ (by omega)) ?_
  refine rn_cV (M' := mX11_fetch) (n := 2) (av := [.inl (gx G (i + 1)), .inl (gx G (i + 2))]) (S := []) (rc := 0) (rs := 0) (mc := 0) (ms := 0) (a := 0) (ci := 10) (r := (RX11, TX11, 12)) (d' := 1999) dL_law_476 pa_X11_fetch (Nat.le_refl _) rfl (Nat.le_of_ble_eq_true rfl) ml_L_44 im_X11_fetch se_X11_fetch rfl rfl rfl (Ev.mono (step_fetch I (by omega)) ?_)
  rintro v sh1 h1 ⟨rfl, -, x, rfl, E2⟩
  show Rn G 2000 0 0 (mLw nm) 479 (LL i) [.inl x] SH h1 QL1
  refine rn_aload_n dL_law_479 rfl rfl ?_
  refine rn_aload_n dL_law_480 rfl rfl ?_
  refine rn_iload_n dL_law_481 rfl rfl ?_
  refine rn_iconst (v := nI 1) dL_law_482 (by decide) ?_
  refine rn_iadd dL_law_483 ?_
  refine rn_ialdS (k := i + 1) dL_law_484 (ixs (by omega)).1 ((ixs (by omega)).2 _ (by omega)) ?_
  refine rn_aload_n dL_law_485 rfl rfl ?_
  refine rn_iload_n dL_law_486 rfl rfl ?_
  refine rn_iconst (v := nI 2) dL_law_487 (by decide) ?_
  refine rn_iadd dL_law_488 ?_
  refine rn_ialdS (k := i + 2) dL_law_489 (ixs (by omega)).1 ((ixs (by omega)).2 _ (by omega)) ?_
  refine rn_cV (M' := mX12_fetch) (n := 2) (av := [.inl (gx G (i + 1)), .inl (gx G (i + 2))]) (S := [.inl x]) (rc := 0) (rs := 0) (mc := 0) (ms := 0) (a := 94) (ci := 11) (r := (RX12, TX12, 38)) (d' := 1999) dL_law_490 pa_X12_fetch (Nat.le_refl _) rfl (Nat.le_of_ble_eq_true rfl) ml_L_47 im_X12_fetch se_X12_fetch rfl rfl rfl (Ev.mono (E2) ?_)
  rintro v sh2 h2 ⟨rfl, -, y, rfl, hxy, I2⟩
  show Rn G 2000 0 0 (mLw nm) 493 (LL i) [.inl y, .inl x] SH h2 QL1
  exact rn_icmp_eq (tgt := 1503) dL_law_493 (by decide) (fun _ => K h2 I2) (fun z => absurd hxy z)
set_option maxHeartbeats 4000000 in
theorem lc_pour (I : Inv h) (hi : i + 6 ≤ gn G) (hg : gn G ≤ 3072) (K : ∀ h', Inv h' → Rn G 2000 0 0 (mLw nm) 1503 (LL i) [] SH h' QL1) : Rn G 2000 0 0 (mLw nm) 498 (LL i) [] SH h QL1 := by
  refine rn_aload_n dL_law_498 rfl rfl ?_
  refine rn_aload_n dL_law_499 rfl rfl ?_
  refine rn_iload_n dL_law_500 rfl rfl ?_
  refine rn_iconst (v := nI 1) dL_law_501 (by decide) ?_
  refine rn_iadd dL_law_502 ?_
  refine rn_ialdS (k := i + 1) dL_law_503 (ixs (by omega)).1 ((ixs (by omega)).2 _ (by omega)) ?_
  refine rn_aload_n dL_law_504 rfl rfl ?_
  refine rn_iload_n dL_law_505 rfl rfl ?_
  refine rn_iconst (v := nI 2) dL_law_506 (by decide) ?_
  refine rn_iadd dL_law_507 ?_
  refine rn_ialdS (k := i + 2) dL_law_508 (ixs (by omega)).1 ((ixs (by omega)).2 _ (by omega)) ?_
  refine rn_aload_n dL_law_509 rfl rfl ?_
  refine rn_iload_n dL_law_510 rfl rfl ?_
  refine rn_iconst (v := nI 3) dL_law_511 (by decide) ?_
  refine rn_iadd dL_law_512 ?_
  refine rn_ialdS (k := i + 3) dL_law_513 (ixs (by omega)).1 ((ixs (by omega)).2 _ (by omega)) ?_
  refine rn_cV (M' := mX11_pour) (n := 3) (av := [.inl (gx G (i + 1)), .inl (gx G (i + 2)), .inl (gx G (i + 3))]) (S := []) (rc := 0) (rs := 0) (mc := 0) (ms := 0) (a := 0) (ci := 10) (r := (RX11, TX11, 12)) (d' := 1999) dL_law_514 pa_X11_pour (Nat.le_refl _) rfl (Nat.le_of_ble_eq_true rfl) ml_L_48 im_X11_pour se_X11_pour rfl rfl rfl (Ev.mono (step_pour I (by omega)) ?_)
  rintro v sh1 h1 ⟨rfl, -, x, rfl, E2⟩
  show Rn G 2000 0 0 (mLw nm) 517 (LL i) [.inl x] SH h1 QL1
  refine rn_aload_n dL_law_517 rfl rfl ?_
  refine rn_aload_n dL_law_518 rfl rfl ?_
  refine rn_iload_n dL_law_519 rfl rfl ?_
  refine rn_iconst (v := nI 1) dL_law_520 (by decide) ?_
  refine rn_iadd dL_law_521 ?_
  refine rn_ialdS (k := i + 1) dL_law_522 (ixs (by omega)).1 ((ixs (by omega)).2 _ (by omega)) ?_
  refine rn_aload_n dL_law_523 rfl rfl ?_
  refine rn_iload_n dL_law_524 rfl rfl ?_
  refine rn_iconst (v := nI 2) dL_law_525 (by decide) ?_
  refine rn_iadd dL_law_526 ?_
  refine rn_ialdS (k := i + 2) dL_law_527 (ixs (by omega)).1 ((ixs (by omega)).2 _ (by omega)) ?_
  refine rn_aload_n dL_law_528 rfl rfl ?_
  refine rn_iload_n dL_law_529 rfl rfl ?_
  refine rn_iconst (v := nI 3) dL_law_530 (by decide) ?_
  refine rn_iadd dL_law_531 ?_
  refine rn_ialdS (k := i + 3) dL_law_532 (ixs (by omega)).1 ((ixs (by omega)).2 _ (by omega)) ?_
  refine rn_cV (M' := mX12_pour) (n := 3) (av := [.inl (gx G (i + 1)), .inl (gx G (i + 2)), .inl (gx G (i + 3))]) (S := [.inl x]) (rc := 0) (rs := 0) (mc := 0) (ms := 0) (a := 94) (ci := 11) (r := (RX12, TX12, 38)) (d' := 1999) dL_law_533 pa_X12_pour (Nat.le_refl _) rfl (Nat.le_of_ble_eq_true rfl) ml_L_51 im_X12_pour se_X12_pour rfl rfl rfl (Ev.mono (E2) ?_)
  rintro v sh2 h2 ⟨rfl, -, y, rfl, hxy, I2⟩
  show Rn G 2000 0 0 (mLw nm) 536 (LL i) [.inl y, .inl x] SH h2 QL1
  exact rn_icmp_eq (tgt := 1503) dL_law_536 (by decide) (fun _ => K h2 I2) (fun z => absurd hxy z)
set_option maxHeartbeats 4000000 in
theorem lc_object (I : Inv h) (hi : i + 6 ≤ gn G) (hg : gn G ≤ 3072) (K : ∀ h', Inv h' → Rn G 2000 0 0 (mLw nm) 1503 (LL i) [] SH h' QL1) : Rn G 2000 0 0 (mLw nm) 541 (LL i) [] SH h QL1 := by
  refine rn_aload_n dL_law_541 rfl rfl ?_
  refine rn_aload_n dL_law_542 rfl rfl ?_
  refine rn_iload_n dL_law_543 rfl rfl ?_
  refine rn_iconst (v := nI 1) dL_law_544 (by decide) ?_
  refine rn_iadd dL_law_545 ?_
  refine rn_ialdS (k := i + 1) dL_law_546 (ixs (by omega)).1 ((ixs (by omega)).2 _ (by omega)) ?_
  refine rn_aload_n dL_law_547 rfl rfl ?_
  refine rn_iload_n dL_law_548 rfl rfl ?_
  refine rn_iconst (v := nI 2) dL_law_549 (by decide) ?_
  refine rn_iadd dL_law_550 ?_
  refine rn_ialdS (k := i + 2) dL_law_551 (ixs (by omega)).1 ((ixs (by omega)).2 _ (by omega)) ?_
  refine rn_cV (M' := mX11_object) (n := 2) (av := [.inl (gx G (i + 1)), .inl (gx G (i + 2))]) (S := []) (rc := 0) (rs := 0) (mc := 0) (ms := 0) (a := 0) (ci := 10) (r := (RX11, TX11, 12)) (d' := 1999) dL_law_552 pa_X11_object (Nat.le_refl _) rfl (Nat.le_of_ble_eq_true rfl) ml_L_52 im_X11_object se_X11_object rfl rfl rfl (Ev.mono (step_object I (by omega)) ?_)
  rintro v sh1 h1 ⟨rfl, -, x, rfl, E2⟩
  show Rn G 2000 0 0 (mLw nm) 555 (LL i) [.inl x] SH h1 QL1
  refine rn_aload_n dL_law_555 rfl rfl ?_
  refine rn_aload_n dL_law_556 rfl rfl ?_
  refine rn_iload_n dL_law_557 rfl rfl ?_
  refine rn_iconst (v := nI 1) dL_law_558 (by decide) ?_
  refine rn_iadd dL_law_559 ?_
  refine rn_ialdS (k := i + 1) dL_law_560 (ixs (by omega)).1 ((ixs (by omega)).2 _ (by omega)) ?_
  refine rn_aload_n dL_law_561 rfl rfl ?_
  refine rn_iload_n dL_law_562 rfl rfl ?_
  refine rn_iconst (v := nI 2) dL_law_563 (by decide) ?_
  refine rn_iadd dL_law_564 ?_
  refine rn_ialdS (k := i + 2) dL_law_565 (ixs (by omega)).1 ((ixs (by omega)).2 _ (by omega)) ?_
  refine rn_cV (M' := mX12_object) (n := 2) (av := [.inl (gx G (i + 1)), .inl (gx G (i + 2))]) (S := [.inl x]) (rc := 0) (rs := 0) (mc := 0) (ms := 0) (a := 94) (ci := 11) (r := (RX12, TX12, 38)) (d' := 1999) dL_law_566 pa_X12_object (Nat.le_refl _) rfl (Nat.le_of_ble_eq_true rfl) ml_L_55 im_X12_object se_X12_object rfl rfl rfl (Ev.mono (E2) ?_)
  rintro v sh2 h2 ⟨rfl, -, y, rfl, hxy, I2⟩
  show Rn G 2000 0 0 (mLw nm) 569 (LL i) [.inl y, .inl x] SH h2 QL1
  exact rn_icmp_eq (tgt := 1503) dL_law_569 (by decide) (fun _ => K h2 I2) (fun z => absurd hxy z)
set_option maxHeartbeats 4000000 in
theorem lc_thumb (I : Inv h) (hi : i + 6 ≤ gn G) (hg : gn G ≤ 3072) (K : ∀ h', Inv h' → Rn G 2000 0 0 (mLw nm) 1503 (LL i) [] SH h' QL1) : Rn G 2000 0 0 (mLw nm) 574 (LL i) [] SH h QL1 := by
  refine rn_aload_n dL_law_574 rfl rfl ?_
  refine rn_aload_n dL_law_575 rfl rfl ?_
  refine rn_iload_n dL_law_576 rfl rfl ?_
  refine rn_iconst (v := nI 1) dL_law_577 (by decide) ?_
  refine rn_iadd dL_law_578 ?_
  refine rn_ialdS (k := i + 1) dL_law_579 (ixs (by omega)).1 ((ixs (by omega)).2 _ (by omega)) ?_
  refine rn_cV (M' := mX11_thumb) (n := 1) (av := [.inl (gx G (i + 1))]) (S := []) (rc := 0) (rs := 0) (mc := 0) (ms := 0) (a := 0) (ci := 10) (r := (RX11, TX11, 12)) (d' := 1999) dL_law_580 pa_X11_thumb (Nat.le_refl _) rfl (Nat.le_of_ble_eq_true rfl) ml_L_56 im_X11_thumb se_X11_thumb rfl rfl rfl (Ev.mono (step_thumb I (by omega)) ?_)
  rintro v sh1 h1 ⟨rfl, -, x, rfl, E2⟩
  show Rn G 2000 0 0 (mLw nm) 583 (LL i) [.inl x] SH h1 QL1
  refine rn_aload_n dL_law_583 rfl rfl ?_
  refine rn_aload_n dL_law_584 rfl rfl ?_
  refine rn_iload_n dL_law_585 rfl rfl ?_
  refine rn_iconst (v := nI 1) dL_law_586 (by decide) ?_
  refine rn_iadd dL_law_587 ?_
  refine rn_ialdS (k := i + 1) dL_law_588 (ixs (by omega)).1 ((ixs (by omega)).2 _ (by omega)) ?_
  refine rn_cV (M' := mX12_thumb) (n := 1) (av := [.inl (gx G (i + 1))]) (S := [.inl x]) (rc := 0) (rs := 0) (mc := 0) (ms := 0) (a := 94) (ci := 11) (r := (RX12, TX12, 38)) (d' := 1999) dL_law_589 pa_X12_thumb (Nat.le_refl _) rfl (Nat.le_of_ble_eq_true rfl) ml_L_60 im_X12_thumb se_X12_thumb rfl rfl rfl (Ev.mono (E2) ?_)
  rintro v sh2 h2 ⟨rfl, -, y, rfl, hxy, I2⟩
  show Rn G 2000 0 0 (mLw nm) 592 (LL i) [.inl y, .inl x] SH h2 QL1
  exact rn_icmp_eq (tgt := 1503) dL_law_592 (by decide) (fun _ => K h2 I2) (fun z => absurd hxy z)
set_option maxHeartbeats 4000000 in
theorem lc_say (I : Inv h) (hi : i + 6 ≤ gn G) (hg : gn G ≤ 3072) (K : ∀ h', Inv h' → Rn G 2000 0 0 (mLw nm) 1503 (LL i) [] SH h' QL1) : Rn G 2000 0 0 (mLw nm) 597 (LL i) [] SH h QL1 := by
  refine rn_aload_n dL_law_597 rfl rfl ?_
  refine rn_aload_n dL_law_598 rfl rfl ?_
  refine rn_iload_n dL_law_599 rfl rfl ?_
  refine rn_iconst (v := nI 1) dL_law_600 (by decide) ?_
  refine rn_iadd dL_law_601 ?_
  refine rn_ialdS (k := i + 1) dL_law_602 (ixs (by omega)).1 ((ixs (by omega)).2 _ (by omega)) ?_
  refine rn_cV (M' := mX11_say) (n := 1) (av := [.inl (gx G (i + 1))]) (S := []) (rc := 0) (rs := 0) (mc := 0) (ms := 0) (a := 0) (ci := 10) (r := (RX11, TX11, 12)) (d' := 1999) dL_law_603 pa_X11_say (Nat.le_refl _) rfl (Nat.le_of_ble_eq_true rfl) ml_L_61 im_X11_say se_X11_say rfl rfl rfl (Ev.mono (step_say I (by omega)) ?_)
  rintro v sh1 h1 ⟨rfl, -, x, rfl, E2⟩
  show Rn G 2000 0 0 (mLw nm) 606 (LL i) [.inl x] SH h1 QL1
  refine rn_aload_n dL_law_606 rfl rfl ?_
  refine rn_aload_n dL_law_607 rfl rfl ?_
  refine rn_iload_n dL_law_608 rfl rfl ?_
  refine rn_iconst (v := nI 1) dL_law_609 (by decide) ?_
  refine rn_iadd dL_law_610 ?_
  refine rn_ialdS (k := i + 1) dL_law_611 (ixs (by omega)).1 ((ixs (by omega)).2 _ (by omega)) ?_
  refine rn_cV (M' := mX12_say) (n := 1) (av := [.inl (gx G (i + 1))]) (S := [.inl x]) (rc := 0) (rs := 0) (mc := 0) (ms := 0) (a := 94) (ci := 11) (r := (RX12, TX12, 38)) (d' := 1999) dL_law_612 pa_X12_say (Nat.le_refl _) rfl (Nat.le_of_ble_eq_true rfl) ml_L_64 im_X12_say se_X12_say rfl rfl rfl (Ev.mono (E2) ?_)
  rintro v sh2 h2 ⟨rfl, -, y, rfl, hxy, I2⟩
  show Rn G 2000 0 0 (mLw nm) 615 (LL i) [.inl y, .inl x] SH h2 QL1
  exact rn_icmp_eq (tgt := 1503) dL_law_615 (by decide) (fun _ => K h2 I2) (fun z => absurd hxy z)
set_option maxHeartbeats 4000000 in
theorem lc_stop (I : Inv h) (hi : i + 6 ≤ gn G) (hg : gn G ≤ 3072) (K : ∀ h', Inv h' → Rn G 2000 0 0 (mLw nm) 1503 (LL i) [] SH h' QL1) : Rn G 2000 0 0 (mLw nm) 620 (LL i) [] SH h QL1 := by
  refine rn_aload_n dL_law_620 rfl rfl ?_
  refine rn_cV (M' := mX11_stop) (n := 0) (av := []) (S := []) (rc := 0) (rs := 0) (mc := 0) (ms := 0) (a := 0) (ci := 10) (r := (RX11, TX11, 12)) (d' := 1999) dL_law_621 pa_X11_stop (Nat.le_refl _) rfl (Nat.le_of_ble_eq_true rfl) ml_L_65 im_X11_stop se_X11_stop rfl rfl rfl (Ev.mono (step_stop I (by omega)) ?_)
  rintro v sh1 h1 ⟨rfl, -, x, rfl, E2⟩
  show Rn G 2000 0 0 (mLw nm) 624 (LL i) [.inl x] SH h1 QL1
  refine rn_aload_n dL_law_624 rfl rfl ?_
  refine rn_cV (M' := mX12_stop) (n := 0) (av := []) (S := [.inl x]) (rc := 0) (rs := 0) (mc := 0) (ms := 0) (a := 94) (ci := 11) (r := (RX12, TX12, 38)) (d' := 1999) dL_law_625 pa_X12_stop (Nat.le_refl _) rfl (Nat.le_of_ble_eq_true rfl) ml_L_69 im_X12_stop se_X12_stop rfl rfl rfl (Ev.mono (E2) ?_)
  rintro v sh2 h2 ⟨rfl, -, y, rfl, hxy, I2⟩
  show Rn G 2000 0 0 (mLw nm) 628 (LL i) [.inl y, .inl x] SH h2 QL1
  exact rn_icmp_eq (tgt := 1503) dL_law_628 (by decide) (fun _ => K h2 I2) (fun z => absurd hxy z)
set_option maxHeartbeats 4000000 in
theorem lc_seconds (I : Inv h) (hi : i + 6 ≤ gn G) (hg : gn G ≤ 3072) (K : ∀ h', Inv h' → Rn G 2000 0 0 (mLw nm) 1503 (LL i) [] SH h' QL1) : Rn G 2000 0 0 (mLw nm) 633 (LL i) [] SH h QL1 := by
  refine rn_aload_n dL_law_633 rfl rfl ?_
  refine rn_aload_n dL_law_634 rfl rfl ?_
  refine rn_iload_n dL_law_635 rfl rfl ?_
  refine rn_iconst (v := nI 1) dL_law_636 (by decide) ?_
  refine rn_iadd dL_law_637 ?_
  refine rn_ialdS (k := i + 1) dL_law_638 (ixs (by omega)).1 ((ixs (by omega)).2 _ (by omega)) ?_
  refine rn_cV (M' := mX11_seconds) (n := 1) (av := [.inl (gx G (i + 1))]) (S := []) (rc := 0) (rs := 0) (mc := 0) (ms := 0) (a := 0) (ci := 10) (r := (RX11, TX11, 12)) (d' := 1999) dL_law_639 pa_X11_seconds (Nat.le_refl _) rfl (Nat.le_of_ble_eq_true rfl) ml_L_70 im_X11_seconds se_X11_seconds rfl rfl rfl (Ev.mono (step_seconds I (by omega)) ?_)
  rintro v sh1 h1 ⟨rfl, -, x, rfl, E2⟩
  show Rn G 2000 0 0 (mLw nm) 642 (LL i) [.inl x] SH h1 QL1
  refine rn_aload_n dL_law_642 rfl rfl ?_
  refine rn_aload_n dL_law_643 rfl rfl ?_
  refine rn_iload_n dL_law_644 rfl rfl ?_
  refine rn_iconst (v := nI 1) dL_law_645 (by decide) ?_
  refine rn_iadd dL_law_646 ?_
  refine rn_ialdS (k := i + 1) dL_law_647 (ixs (by omega)).1 ((ixs (by omega)).2 _ (by omega)) ?_
  refine rn_cV (M' := mX12_seconds) (n := 1) (av := [.inl (gx G (i + 1))]) (S := [.inl x]) (rc := 0) (rs := 0) (mc := 0) (ms := 0) (a := 94) (ci := 11) (r := (RX12, TX12, 38)) (d' := 1999) dL_law_648 pa_X12_seconds (Nat.le_refl _) rfl (Nat.le_of_ble_eq_true rfl) ml_L_73 im_X12_seconds se_X12_seconds rfl rfl rfl (Ev.mono (E2) ?_)
  rintro v sh2 h2 ⟨rfl, -, y, rfl, hxy, I2⟩
  show Rn G 2000 0 0 (mLw nm) 651 (LL i) [.inl y, .inl x] SH h2 QL1
  exact rn_icmp_eq (tgt := 1503) dL_law_651 (by decide) (fun _ => K h2 I2) (fun z => absurd hxy z)
set_option maxHeartbeats 4000000 in
theorem lc_loose (I : Inv h) (hi : i + 6 ≤ gn G) (hg : gn G ≤ 3072) (K : ∀ h', Inv h' → Rn G 2000 0 0 (mLw nm) 1503 (LL i) [] SH h' QL1) : Rn G 2000 0 0 (mLw nm) 656 (LL i) [] SH h QL1 := by
  refine rn_aload_n dL_law_656 rfl rfl ?_
  refine rn_aload_n dL_law_657 rfl rfl ?_
  refine rn_iload_n dL_law_658 rfl rfl ?_
  refine rn_iconst (v := nI 1) dL_law_659 (by decide) ?_
  refine rn_iadd dL_law_660 ?_
  refine rn_ialdS (k := i + 1) dL_law_661 (ixs (by omega)).1 ((ixs (by omega)).2 _ (by omega)) ?_
  refine rn_cV (M' := mX11_loose) (n := 1) (av := [.inl (gx G (i + 1))]) (S := []) (rc := 0) (rs := 0) (mc := 0) (ms := 0) (a := 0) (ci := 10) (r := (RX11, TX11, 12)) (d' := 1999) dL_law_662 pa_X11_loose (Nat.le_refl _) rfl (Nat.le_of_ble_eq_true rfl) ml_L_74 im_X11_loose se_X11_loose rfl rfl rfl (Ev.mono (step_loose I (by omega)) ?_)
  rintro v sh1 h1 ⟨rfl, -, x, rfl, E2⟩
  show Rn G 2000 0 0 (mLw nm) 665 (LL i) [.inl x] SH h1 QL1
  refine rn_aload_n dL_law_665 rfl rfl ?_
  refine rn_aload_n dL_law_666 rfl rfl ?_
  refine rn_iload_n dL_law_667 rfl rfl ?_
  refine rn_iconst (v := nI 1) dL_law_668 (by decide) ?_
  refine rn_iadd dL_law_669 ?_
  refine rn_ialdS (k := i + 1) dL_law_670 (ixs (by omega)).1 ((ixs (by omega)).2 _ (by omega)) ?_
  refine rn_cV (M' := mX12_loose) (n := 1) (av := [.inl (gx G (i + 1))]) (S := [.inl x]) (rc := 0) (rs := 0) (mc := 0) (ms := 0) (a := 94) (ci := 11) (r := (RX12, TX12, 38)) (d' := 1999) dL_law_671 pa_X12_loose (Nat.le_refl _) rfl (Nat.le_of_ble_eq_true rfl) ml_L_77 im_X12_loose se_X12_loose rfl rfl rfl (Ev.mono (E2) ?_)
  rintro v sh2 h2 ⟨rfl, -, y, rfl, hxy, I2⟩
  show Rn G 2000 0 0 (mLw nm) 674 (LL i) [.inl y, .inl x] SH h2 QL1
  exact rn_icmp_eq (tgt := 1503) dL_law_674 (by decide) (fun _ => K h2 I2) (fun z => absurd hxy z)
set_option maxHeartbeats 4000000 in
theorem lc_then (I : Inv h) (hi : i + 6 ≤ gn G) (hg : gn G ≤ 3072) (K : ∀ h', Inv h' → Rn G 2000 0 0 (mLw nm) 1503 (LL i) [] SH h' QL1) : Rn G 2000 0 0 (mLw nm) 679 (LL i) [] SH h QL1 := by
  refine rn_aload_n dL_law_679 rfl rfl ?_
  refine rn_aload_n dL_law_680 rfl rfl ?_
  refine rn_iload_n dL_law_681 rfl rfl ?_
  refine rn_iconst (v := nI 1) dL_law_682 (by decide) ?_
  refine rn_iadd dL_law_683 ?_
  refine rn_ialdS (k := i + 1) dL_law_684 (ixs (by omega)).1 ((ixs (by omega)).2 _ (by omega)) ?_
  refine rn_aload_n dL_law_685 rfl rfl ?_
  refine rn_iload_n dL_law_686 rfl rfl ?_
  refine rn_iconst (v := nI 2) dL_law_687 (by decide) ?_
  refine rn_iadd dL_law_688 ?_
  refine rn_ialdS (k := i + 2) dL_law_689 (ixs (by omega)).1 ((ixs (by omega)).2 _ (by omega)) ?_
  refine rn_aload_n dL_law_690 rfl rfl ?_
  refine rn_iload_n dL_law_691 rfl rfl ?_
  refine rn_iconst (v := nI 3) dL_law_692 (by decide) ?_
  refine rn_iadd dL_law_693 ?_
  refine rn_ialdS (k := i + 3) dL_law_694 (ixs (by omega)).1 ((ixs (by omega)).2 _ (by omega)) ?_
  refine rn_cV (M' := mX11_then) (n := 3) (av := [.inl (gx G (i + 1)), .inl (gx G (i + 2)), .inl (gx G (i + 3))]) (S := []) (rc := 0) (rs := 0) (mc := 0) (ms := 0) (a := 0) (ci := 10) (r := (RX11, TX11, 12)) (d' := 1999) dL_law_695 pa_X11_then (Nat.le_refl _) rfl (Nat.le_of_ble_eq_true rfl) ml_L_78 im_X11_then se_X11_then rfl rfl rfl (Ev.mono (step_then I (by omega)) ?_)
  rintro v sh1 h1 ⟨rfl, -, x, rfl, E2⟩
  show Rn G 2000 0 0 (mLw nm) 698 (LL i) [.inl x] SH h1 QL1
  refine rn_aload_n dL_law_698 rfl rfl ?_
  refine rn_aload_n dL_law_699 rfl rfl ?_
  refine rn_iload_n dL_law_700 rfl rfl ?_
  refine rn_iconst (v := nI 1) dL_law_701 (by decide) ?_
  refine rn_iadd dL_law_702 ?_
  refine rn_ialdS (k := i + 1) dL_law_703 (ixs (by omega)).1 ((ixs (by omega)).2 _ (by omega)) ?_
  refine rn_aload_n dL_law_704 rfl rfl ?_
  refine rn_iload_n dL_law_705 rfl rfl ?_
  refine rn_iconst (v := nI 2) dL_law_706 (by decide) ?_
  refine rn_iadd dL_law_707 ?_
  refine rn_ialdS (k := i + 2) dL_law_708 (ixs (by omega)).1 ((ixs (by omega)).2 _ (by omega)) ?_
  refine rn_aload_n dL_law_709 rfl rfl ?_
  refine rn_iload_n dL_law_710 rfl rfl ?_
  refine rn_iconst (v := nI 3) dL_law_711 (by decide) ?_
  refine rn_iadd dL_law_712 ?_
  refine rn_ialdS (k := i + 3) dL_law_713 (ixs (by omega)).1 ((ixs (by omega)).2 _ (by omega)) ?_
  refine rn_cV (M' := mX12_then) (n := 3) (av := [.inl (gx G (i + 1)), .inl (gx G (i + 2)), .inl (gx G (i + 3))]) (S := [.inl x]) (rc := 0) (rs := 0) (mc := 0) (ms := 0) (a := 94) (ci := 11) (r := (RX12, TX12, 38)) (d' := 1999) dL_law_714 pa_X12_then (Nat.le_refl _) rfl (Nat.le_of_ble_eq_true rfl) ml_L_81 im_X12_then se_X12_then rfl rfl rfl (Ev.mono (E2) ?_)
  rintro v sh2 h2 ⟨rfl, -, y, rfl, hxy, I2⟩
  show Rn G 2000 0 0 (mLw nm) 717 (LL i) [.inl y, .inl x] SH h2 QL1
  exact rn_icmp_eq (tgt := 1503) dL_law_717 (by decide) (fun _ => K h2 I2) (fun z => absurd hxy z)
set_option maxHeartbeats 4000000 in
theorem lc_feed (I : Inv h) (hi : i + 6 ≤ gn G) (hg : gn G ≤ 3072) (K : ∀ h', Inv h' → Rn G 2000 0 0 (mLw nm) 1503 (LL i) [] SH h' QL1) : Rn G 2000 0 0 (mLw nm) 722 (LL i) [] SH h QL1 := by
  refine rn_aload_n dL_law_722 rfl rfl ?_
  refine rn_aload_n dL_law_723 rfl rfl ?_
  refine rn_iload_n dL_law_724 rfl rfl ?_
  refine rn_iconst (v := nI 1) dL_law_725 (by decide) ?_
  refine rn_iadd dL_law_726 ?_
  refine rn_ialdS (k := i + 1) dL_law_727 (ixs (by omega)).1 ((ixs (by omega)).2 _ (by omega)) ?_
  refine rn_i2l dL_law_728 ?_
  refine rn_bipush (v := 32) dL_law_729 (by decide) ?_
  refine rn_lshl dL_law_731 ?_
  refine rn_aload_n dL_law_732 rfl rfl ?_
  refine rn_iload_n dL_law_733 rfl rfl ?_
  refine rn_iconst (v := nI 2) dL_law_734 (by decide) ?_
  refine rn_iadd dL_law_735 ?_
  refine rn_ialdS (k := i + 2) dL_law_736 (ixs (by omega)).1 ((ixs (by omega)).2 _ (by omega)) ?_
  refine rn_i2l dL_law_737 ?_
  refine rn_ldc2 (v := 4294967295) dL_law_738 cw_L_82 ?_
  refine rn_land dL_law_741 ?_
  refine rn_lor dL_law_742 ?_
  refine rn_aload_n dL_law_743 rfl rfl ?_
  refine rn_iload_n dL_law_744 rfl rfl ?_
  refine rn_iconst (v := nI 3) dL_law_745 (by decide) ?_
  refine rn_iadd dL_law_746 ?_
  refine rn_ialdS (k := i + 3) dL_law_747 (ixs (by omega)).1 ((ixs (by omega)).2 _ (by omega)) ?_
  refine rn_cV (M' := mX11_feed) (n := 2) (av := [.inr (.inl _), .inl (gx G (i + 3))]) (S := []) (rc := 0) (rs := 0) (mc := 0) (ms := 0) (a := 0) (ci := 10) (r := (RX11, TX11, 12)) (d' := 1999) dL_law_748 pa_X11_feed (Nat.le_refl _) rfl (Nat.le_of_ble_eq_true rfl) ml_L_84 im_X11_feed se_X11_feed rfl rfl rfl (Ev.mono (step_feed I (by omega)) ?_)
  rintro v sh1 h1 ⟨rfl, -, x, rfl, E2⟩
  show Rn G 2000 0 0 (mLw nm) 751 (LL i) [.inl x] SH h1 QL1
  refine rn_aload_n dL_law_751 rfl rfl ?_
  refine rn_aload_n dL_law_752 rfl rfl ?_
  refine rn_iload_n dL_law_753 rfl rfl ?_
  refine rn_iconst (v := nI 1) dL_law_754 (by decide) ?_
  refine rn_iadd dL_law_755 ?_
  refine rn_ialdS (k := i + 1) dL_law_756 (ixs (by omega)).1 ((ixs (by omega)).2 _ (by omega)) ?_
  refine rn_i2l dL_law_757 ?_
  refine rn_bipush (v := 32) dL_law_758 (by decide) ?_
  refine rn_lshl dL_law_760 ?_
  refine rn_aload_n dL_law_761 rfl rfl ?_
  refine rn_iload_n dL_law_762 rfl rfl ?_
  refine rn_iconst (v := nI 2) dL_law_763 (by decide) ?_
  refine rn_iadd dL_law_764 ?_
  refine rn_ialdS (k := i + 2) dL_law_765 (ixs (by omega)).1 ((ixs (by omega)).2 _ (by omega)) ?_
  refine rn_i2l dL_law_766 ?_
  refine rn_ldc2 (v := 4294967295) dL_law_767 cw_L_82 ?_
  refine rn_land dL_law_770 ?_
  refine rn_lor dL_law_771 ?_
  refine rn_aload_n dL_law_772 rfl rfl ?_
  refine rn_iload_n dL_law_773 rfl rfl ?_
  refine rn_iconst (v := nI 3) dL_law_774 (by decide) ?_
  refine rn_iadd dL_law_775 ?_
  refine rn_ialdS (k := i + 3) dL_law_776 (ixs (by omega)).1 ((ixs (by omega)).2 _ (by omega)) ?_
  refine rn_cV (M' := mX12_feed) (n := 2) (av := [.inr (.inl _), .inl (gx G (i + 3))]) (S := [.inl x]) (rc := 0) (rs := 0) (mc := 0) (ms := 0) (a := 94) (ci := 11) (r := (RX12, TX12, 38)) (d' := 1999) dL_law_777 pa_X12_feed (Nat.le_refl _) rfl (Nat.le_of_ble_eq_true rfl) ml_L_88 im_X12_feed se_X12_feed rfl rfl rfl (Ev.mono (E2) ?_)
  rintro v sh2 h2 ⟨rfl, -, y, rfl, hxy, I2⟩
  show Rn G 2000 0 0 (mLw nm) 780 (LL i) [.inl y, .inl x] SH h2 QL1
  exact rn_icmp_eq (tgt := 1503) dL_law_780 (by decide) (fun _ => K h2 I2) (fun z => absurd hxy z)
set_option maxHeartbeats 4000000 in
theorem lc_text (I : Inv h) (hi : i + 6 ≤ gn G) (hg : gn G ≤ 3072) (K : ∀ h', Inv h' → Rn G 2000 0 0 (mLw nm) 1503 (LL i) [] SH h' QL1) : Rn G 2000 0 0 (mLw nm) 785 (LL i) [] SH h QL1 := by
  refine rn_aload_n dL_law_785 rfl rfl ?_
  refine rn_aload_n dL_law_786 rfl rfl ?_
  refine rn_iload_n dL_law_787 rfl rfl ?_
  refine rn_iconst (v := nI 1) dL_law_788 (by decide) ?_
  refine rn_iadd dL_law_789 ?_
  refine rn_ialdS (k := i + 1) dL_law_790 (ixs (by omega)).1 ((ixs (by omega)).2 _ (by omega)) ?_
  refine rn_cV (M' := mX11_text) (n := 1) (av := [.inl (gx G (i + 1))]) (S := []) (rc := 0) (rs := 0) (mc := 0) (ms := 0) (a := 0) (ci := 10) (r := (RX11, TX11, 12)) (d' := 1999) dL_law_791 pa_X11_text (Nat.le_refl _) rfl (Nat.le_of_ble_eq_true rfl) ml_L_89 im_X11_text se_X11_text rfl rfl rfl (Ev.mono (step_text I (by omega)) ?_)
  rintro v sh1 h1 ⟨rfl, -, x, rfl, E2⟩
  show Rn G 2000 0 0 (mLw nm) 794 (LL i) [.inl x] SH h1 QL1
  refine rn_aload_n dL_law_794 rfl rfl ?_
  refine rn_aload_n dL_law_795 rfl rfl ?_
  refine rn_iload_n dL_law_796 rfl rfl ?_
  refine rn_iconst (v := nI 1) dL_law_797 (by decide) ?_
  refine rn_iadd dL_law_798 ?_
  refine rn_ialdS (k := i + 1) dL_law_799 (ixs (by omega)).1 ((ixs (by omega)).2 _ (by omega)) ?_
  refine rn_cV (M' := mX12_text) (n := 1) (av := [.inl (gx G (i + 1))]) (S := [.inl x]) (rc := 0) (rs := 0) (mc := 0) (ms := 0) (a := 94) (ci := 11) (r := (RX12, TX12, 38)) (d' := 1999) dL_law_800 pa_X12_text (Nat.le_refl _) rfl (Nat.le_of_ble_eq_true rfl) ml_L_92 im_X12_text se_X12_text rfl rfl rfl (Ev.mono (E2) ?_)
  rintro v sh2 h2 ⟨rfl, -, y, rfl, hxy, I2⟩
  show Rn G 2000 0 0 (mLw nm) 803 (LL i) [.inl y, .inl x] SH h2 QL1
  exact rn_icmp_eq (tgt := 1503) dL_law_803 (by decide) (fun _ => K h2 I2) (fun z => absurd hxy z)
set_option maxHeartbeats 4000000 in
theorem lc_law (I : Inv h) (hi : i + 6 ≤ gn G) (hg : gn G ≤ 3072) (K : ∀ h', Inv h' → Rn G 2000 0 0 (mLw nm) 1503 (LL i) [] SH h' QL1) : Rn G 2000 0 0 (mLw nm) 808 (LL i) [] SH h QL1 := by
  refine rn_aload_n dL_law_808 rfl rfl ?_
  refine rn_aload_n dL_law_809 rfl rfl ?_
  refine rn_iload_n dL_law_810 rfl rfl ?_
  refine rn_iconst (v := nI 1) dL_law_811 (by decide) ?_
  refine rn_iadd dL_law_812 ?_
  refine rn_ialdS (k := i + 1) dL_law_813 (ixs (by omega)).1 ((ixs (by omega)).2 _ (by omega)) ?_
  refine rn_aload_n dL_law_814 rfl rfl ?_
  refine rn_iload_n dL_law_815 rfl rfl ?_
  refine rn_iconst (v := nI 2) dL_law_816 (by decide) ?_
  refine rn_iadd dL_law_817 ?_
  refine rn_ialdS (k := i + 2) dL_law_818 (ixs (by omega)).1 ((ixs (by omega)).2 _ (by omega)) ?_
  refine rn_aload_n dL_law_819 rfl rfl ?_
  refine rn_iload_n dL_law_820 rfl rfl ?_
  refine rn_iconst (v := nI 3) dL_law_821 (by decide) ?_
  refine rn_iadd dL_law_822 ?_
  refine rn_ialdS (k := i + 3) dL_law_823 (ixs (by omega)).1 ((ixs (by omega)).2 _ (by omega)) ?_
  refine rn_aload_n dL_law_824 rfl rfl ?_
  refine rn_iload_n dL_law_825 rfl rfl ?_
  refine rn_iconst (v := nI 4) dL_law_826 (by decide) ?_
  refine rn_iadd dL_law_827 ?_
  refine rn_ialdS (k := i + 4) dL_law_828 (ixs (by omega)).1 ((ixs (by omega)).2 _ (by omega)) ?_
  refine rn_cV (M' := mX11_law) (n := 4) (av := [.inl (gx G (i + 1)), .inl (gx G (i + 2)), .inl (gx G (i + 3)), .inl (gx G (i + 4))]) (S := []) (rc := 0) (rs := 0) (mc := 0) (ms := 0) (a := 0) (ci := 10) (r := (RX11, TX11, 12)) (d' := 1999) dL_law_829 pa_X11_law (Nat.le_refl _) rfl (Nat.le_of_ble_eq_true rfl) ml_L_93 im_X11_law se_X11_law rfl rfl rfl (Ev.mono (step_law I (by omega)) ?_)
  rintro v sh1 h1 ⟨rfl, -, x, rfl, E2⟩
  show Rn G 2000 0 0 (mLw nm) 832 (LL i) [.inl x] SH h1 QL1
  refine rn_aload_n dL_law_832 rfl rfl ?_
  refine rn_aload_n dL_law_833 rfl rfl ?_
  refine rn_iload_n dL_law_834 rfl rfl ?_
  refine rn_iconst (v := nI 1) dL_law_835 (by decide) ?_
  refine rn_iadd dL_law_836 ?_
  refine rn_ialdS (k := i + 1) dL_law_837 (ixs (by omega)).1 ((ixs (by omega)).2 _ (by omega)) ?_
  refine rn_aload_n dL_law_838 rfl rfl ?_
  refine rn_iload_n dL_law_839 rfl rfl ?_
  refine rn_iconst (v := nI 2) dL_law_840 (by decide) ?_
  refine rn_iadd dL_law_841 ?_
  refine rn_ialdS (k := i + 2) dL_law_842 (ixs (by omega)).1 ((ixs (by omega)).2 _ (by omega)) ?_
  refine rn_aload_n dL_law_843 rfl rfl ?_
  refine rn_iload_n dL_law_844 rfl rfl ?_
  refine rn_iconst (v := nI 3) dL_law_845 (by decide) ?_
  refine rn_iadd dL_law_846 ?_
  refine rn_ialdS (k := i + 3) dL_law_847 (ixs (by omega)).1 ((ixs (by omega)).2 _ (by omega)) ?_
  refine rn_aload_n dL_law_848 rfl rfl ?_
  refine rn_iload_n dL_law_849 rfl rfl ?_
  refine rn_iconst (v := nI 4) dL_law_850 (by decide) ?_
  refine rn_iadd dL_law_851 ?_
  refine rn_ialdS (k := i + 4) dL_law_852 (ixs (by omega)).1 ((ixs (by omega)).2 _ (by omega)) ?_
  refine rn_cV (M' := mX12_law) (n := 4) (av := [.inl (gx G (i + 1)), .inl (gx G (i + 2)), .inl (gx G (i + 3)), .inl (gx G (i + 4))]) (S := [.inl x]) (rc := 0) (rs := 0) (mc := 0) (ms := 0) (a := 94) (ci := 11) (r := (RX12, TX12, 38)) (d' := 1999) dL_law_853 pa_X12_law (Nat.le_refl _) rfl (Nat.le_of_ble_eq_true rfl) ml_L_96 im_X12_law se_X12_law rfl rfl rfl (Ev.mono (E2) ?_)
  rintro v sh2 h2 ⟨rfl, -, y, rfl, hxy, I2⟩
  show Rn G 2000 0 0 (mLw nm) 856 (LL i) [.inl y, .inl x] SH h2 QL1
  exact rn_icmp_eq (tgt := 1503) dL_law_856 (by decide) (fun _ => K h2 I2) (fun z => absurd hxy z)
set_option maxHeartbeats 4000000 in
theorem lc_best (I : Inv h) (hi : i + 6 ≤ gn G) (hg : gn G ≤ 3072) (K : ∀ h', Inv h' → Rn G 2000 0 0 (mLw nm) 1503 (LL i) [] SH h' QL1) : Rn G 2000 0 0 (mLw nm) 861 (LL i) [] SH h QL1 := by
  refine rn_aload_n dL_law_861 rfl rfl ?_
  refine rn_aload_n dL_law_862 rfl rfl ?_
  refine rn_iload_n dL_law_863 rfl rfl ?_
  refine rn_iconst (v := nI 1) dL_law_864 (by decide) ?_
  refine rn_iadd dL_law_865 ?_
  refine rn_ialdS (k := i + 1) dL_law_866 (ixs (by omega)).1 ((ixs (by omega)).2 _ (by omega)) ?_
  refine rn_aload_n dL_law_867 rfl rfl ?_
  refine rn_iload_n dL_law_868 rfl rfl ?_
  refine rn_iconst (v := nI 2) dL_law_869 (by decide) ?_
  refine rn_iadd dL_law_870 ?_
  refine rn_ialdS (k := i + 2) dL_law_871 (ixs (by omega)).1 ((ixs (by omega)).2 _ (by omega)) ?_
  refine rn_cV (M' := mX11_best) (n := 2) (av := [.inl (gx G (i + 1)), .inl (gx G (i + 2))]) (S := []) (rc := 0) (rs := 0) (mc := 0) (ms := 0) (a := 0) (ci := 10) (r := (RX11, TX11, 12)) (d' := 1999) dL_law_872 pa_X11_best (Nat.le_refl _) rfl (Nat.le_of_ble_eq_true rfl) ml_L_97 im_X11_best se_X11_best rfl rfl rfl (Ev.mono (step_best I (by omega)) ?_)
  rintro v sh1 h1 ⟨rfl, -, x, rfl, E2⟩
  show Rn G 2000 0 0 (mLw nm) 875 (LL i) [.inl x] SH h1 QL1
  refine rn_aload_n dL_law_875 rfl rfl ?_
  refine rn_aload_n dL_law_876 rfl rfl ?_
  refine rn_iload_n dL_law_877 rfl rfl ?_
  refine rn_iconst (v := nI 1) dL_law_878 (by decide) ?_
  refine rn_iadd dL_law_879 ?_
  refine rn_ialdS (k := i + 1) dL_law_880 (ixs (by omega)).1 ((ixs (by omega)).2 _ (by omega)) ?_
  refine rn_aload_n dL_law_881 rfl rfl ?_
  refine rn_iload_n dL_law_882 rfl rfl ?_
  refine rn_iconst (v := nI 2) dL_law_883 (by decide) ?_
  refine rn_iadd dL_law_884 ?_
  refine rn_ialdS (k := i + 2) dL_law_885 (ixs (by omega)).1 ((ixs (by omega)).2 _ (by omega)) ?_
  refine rn_cV (M' := mX12_best) (n := 2) (av := [.inl (gx G (i + 1)), .inl (gx G (i + 2))]) (S := [.inl x]) (rc := 0) (rs := 0) (mc := 0) (ms := 0) (a := 94) (ci := 11) (r := (RX12, TX12, 38)) (d' := 1999) dL_law_886 pa_X12_best (Nat.le_refl _) rfl (Nat.le_of_ble_eq_true rfl) ml_L_100 im_X12_best se_X12_best rfl rfl rfl (Ev.mono (E2) ?_)
  rintro v sh2 h2 ⟨rfl, -, y, rfl, hxy, I2⟩
  show Rn G 2000 0 0 (mLw nm) 889 (LL i) [.inl y, .inl x] SH h2 QL1
  exact rn_icmp_eq (tgt := 1503) dL_law_889 (by decide) (fun _ => K h2 I2) (fun z => absurd hxy z)
set_option maxHeartbeats 4000000 in
theorem lc_share (I : Inv h) (hi : i + 6 ≤ gn G) (hg : gn G ≤ 3072) (K : ∀ h', Inv h' → Rn G 2000 0 0 (mLw nm) 1503 (LL i) [] SH h' QL1) : Rn G 2000 0 0 (mLw nm) 894 (LL i) [] SH h QL1 := by
  refine rn_aload_n dL_law_894 rfl rfl ?_
  refine rn_aload_n dL_law_895 rfl rfl ?_
  refine rn_iload_n dL_law_896 rfl rfl ?_
  refine rn_iconst (v := nI 1) dL_law_897 (by decide) ?_
  refine rn_iadd dL_law_898 ?_
  refine rn_ialdS (k := i + 1) dL_law_899 (ixs (by omega)).1 ((ixs (by omega)).2 _ (by omega)) ?_
  refine rn_aload_n dL_law_900 rfl rfl ?_
  refine rn_iload_n dL_law_901 rfl rfl ?_
  refine rn_iconst (v := nI 2) dL_law_902 (by decide) ?_
  refine rn_iadd dL_law_903 ?_
  refine rn_ialdS (k := i + 2) dL_law_904 (ixs (by omega)).1 ((ixs (by omega)).2 _ (by omega)) ?_
  refine rn_cV (M' := mX11_share) (n := 2) (av := [.inl (gx G (i + 1)), .inl (gx G (i + 2))]) (S := []) (rc := 0) (rs := 0) (mc := 0) (ms := 0) (a := 0) (ci := 10) (r := (RX11, TX11, 12)) (d' := 1999) dL_law_905 pa_X11_share (Nat.le_refl _) rfl (Nat.le_of_ble_eq_true rfl) ml_L_101 im_X11_share se_X11_share rfl rfl rfl (Ev.mono (step_share I (by omega)) ?_)
  rintro v sh1 h1 ⟨rfl, -, x, rfl, E2⟩
  show Rn G 2000 0 0 (mLw nm) 908 (LL i) [.inr (.inl x)] SH h1 QL1
  refine rn_aload_n dL_law_908 rfl rfl ?_
  refine rn_aload_n dL_law_909 rfl rfl ?_
  refine rn_iload_n dL_law_910 rfl rfl ?_
  refine rn_iconst (v := nI 1) dL_law_911 (by decide) ?_
  refine rn_iadd dL_law_912 ?_
  refine rn_ialdS (k := i + 1) dL_law_913 (ixs (by omega)).1 ((ixs (by omega)).2 _ (by omega)) ?_
  refine rn_aload_n dL_law_914 rfl rfl ?_
  refine rn_iload_n dL_law_915 rfl rfl ?_
  refine rn_iconst (v := nI 2) dL_law_916 (by decide) ?_
  refine rn_iadd dL_law_917 ?_
  refine rn_ialdS (k := i + 2) dL_law_918 (ixs (by omega)).1 ((ixs (by omega)).2 _ (by omega)) ?_
  refine rn_cV (M' := mX12_share) (n := 2) (av := [.inl (gx G (i + 1)), .inl (gx G (i + 2))]) (S := [.inr (.inl x)]) (rc := 0) (rs := 0) (mc := 0) (ms := 0) (a := 94) (ci := 11) (r := (RX12, TX12, 38)) (d' := 1999) dL_law_919 pa_X12_share (Nat.le_refl _) rfl (Nat.le_of_ble_eq_true rfl) ml_L_105 im_X12_share se_X12_share rfl rfl rfl (Ev.mono (E2) ?_)
  rintro v sh2 h2 ⟨rfl, -, y, rfl, hxy, I2⟩
  show Rn G 2000 0 0 (mLw nm) 922 (LL i) [.inr (.inl y), .inr (.inl x)] SH h2 QL1
  refine rn_lcmp dL_law_922 ?_
  exact rn_if_eq (tgt := 1503) dL_law_923 (by decide) (fun _ => K h2 I2) (fun z => absurd ((lg_cmp_eq _ _).mpr hxy) z)
set_option maxHeartbeats 4000000 in
theorem lc_leaves (I : Inv h) (hi : i + 6 ≤ gn G) (hg : gn G ≤ 3072) (K : ∀ h', Inv h' → Rn G 2000 0 0 (mLw nm) 1503 (LL i) [] SH h' QL1) : Rn G 2000 0 0 (mLw nm) 928 (LL i) [] SH h QL1 := by
  refine rn_aload_n dL_law_928 rfl rfl ?_
  refine rn_cV (M' := mX11_leaves) (n := 0) (av := []) (S := []) (rc := 0) (rs := 0) (mc := 0) (ms := 0) (a := 0) (ci := 10) (r := (RX11, TX11, 12)) (d' := 1999) dL_law_929 pa_X11_leaves (Nat.le_refl _) rfl (Nat.le_of_ble_eq_true rfl) ml_L_106 im_X11_leaves se_X11_leaves rfl rfl rfl (Ev.mono (step_leaves I (by omega)) ?_)
  rintro v sh1 h1 ⟨rfl, -, x, rfl, E2⟩
  show Rn G 2000 0 0 (mLw nm) 932 (LL i) [.inl x] SH h1 QL1
  refine rn_aload_n dL_law_932 rfl rfl ?_
  refine rn_cV (M' := mX12_leaves) (n := 0) (av := []) (S := [.inl x]) (rc := 0) (rs := 0) (mc := 0) (ms := 0) (a := 94) (ci := 11) (r := (RX12, TX12, 38)) (d' := 1999) dL_law_933 pa_X12_leaves (Nat.le_refl _) rfl (Nat.le_of_ble_eq_true rfl) ml_L_109 im_X12_leaves se_X12_leaves rfl rfl rfl (Ev.mono (E2) ?_)
  rintro v sh2 h2 ⟨rfl, -, y, rfl, hxy, I2⟩
  show Rn G 2000 0 0 (mLw nm) 936 (LL i) [.inl y, .inl x] SH h2 QL1
  exact rn_icmp_eq (tgt := 1503) dL_law_936 (by decide) (fun _ => K h2 I2) (fun z => absurd hxy z)
set_option maxHeartbeats 4000000 in
theorem lc_game (I : Inv h) (hi : i + 6 ≤ gn G) (hg : gn G ≤ 3072) (K : ∀ h', Inv h' → Rn G 2000 0 0 (mLw nm) 1503 (LL i) [] SH h' QL1) : Rn G 2000 0 0 (mLw nm) 941 (LL i) [] SH h QL1 := by
  refine rn_aload_n dL_law_941 rfl rfl ?_
  refine rn_aload_n dL_law_942 rfl rfl ?_
  refine rn_iload_n dL_law_943 rfl rfl ?_
  refine rn_iconst (v := nI 1) dL_law_944 (by decide) ?_
  refine rn_iadd dL_law_945 ?_
  refine rn_ialdS (k := i + 1) dL_law_946 (ixs (by omega)).1 ((ixs (by omega)).2 _ (by omega)) ?_
  refine rn_aload_n dL_law_947 rfl rfl ?_
  refine rn_iload_n dL_law_948 rfl rfl ?_
  refine rn_iconst (v := nI 2) dL_law_949 (by decide) ?_
  refine rn_iadd dL_law_950 ?_
  refine rn_ialdS (k := i + 2) dL_law_951 (ixs (by omega)).1 ((ixs (by omega)).2 _ (by omega)) ?_
  refine rn_aload_n dL_law_952 rfl rfl ?_
  refine rn_iload_n dL_law_953 rfl rfl ?_
  refine rn_iconst (v := nI 3) dL_law_954 (by decide) ?_
  refine rn_iadd dL_law_955 ?_
  refine rn_ialdS (k := i + 3) dL_law_956 (ixs (by omega)).1 ((ixs (by omega)).2 _ (by omega)) ?_
  refine rn_aload_n dL_law_957 rfl rfl ?_
  refine rn_iload_n dL_law_958 rfl rfl ?_
  refine rn_iconst (v := nI 4) dL_law_959 (by decide) ?_
  refine rn_iadd dL_law_960 ?_
  refine rn_ialdS (k := i + 4) dL_law_961 (ixs (by omega)).1 ((ixs (by omega)).2 _ (by omega)) ?_
  refine rn_cV (M' := mX11_game) (n := 4) (av := [.inl (gx G (i + 1)), .inl (gx G (i + 2)), .inl (gx G (i + 3)), .inl (gx G (i + 4))]) (S := []) (rc := 0) (rs := 0) (mc := 0) (ms := 0) (a := 0) (ci := 10) (r := (RX11, TX11, 12)) (d' := 1999) dL_law_962 pa_X11_game (Nat.le_refl _) rfl (Nat.le_of_ble_eq_true rfl) ml_L_110 im_X11_game se_X11_game rfl rfl rfl (Ev.mono (step_game I (by omega)) ?_)
  rintro v sh1 h1 ⟨rfl, -, x, rfl, E2⟩
  show Rn G 2000 0 0 (mLw nm) 965 (LL i) [.inl x] SH h1 QL1
  refine rn_aload_n dL_law_965 rfl rfl ?_
  refine rn_aload_n dL_law_966 rfl rfl ?_
  refine rn_iload_n dL_law_967 rfl rfl ?_
  refine rn_iconst (v := nI 1) dL_law_968 (by decide) ?_
  refine rn_iadd dL_law_969 ?_
  refine rn_ialdS (k := i + 1) dL_law_970 (ixs (by omega)).1 ((ixs (by omega)).2 _ (by omega)) ?_
  refine rn_aload_n dL_law_971 rfl rfl ?_
  refine rn_iload_n dL_law_972 rfl rfl ?_
  refine rn_iconst (v := nI 2) dL_law_973 (by decide) ?_
  refine rn_iadd dL_law_974 ?_
  refine rn_ialdS (k := i + 2) dL_law_975 (ixs (by omega)).1 ((ixs (by omega)).2 _ (by omega)) ?_
  refine rn_aload_n dL_law_976 rfl rfl ?_
  refine rn_iload_n dL_law_977 rfl rfl ?_
  refine rn_iconst (v := nI 3) dL_law_978 (by decide) ?_
  refine rn_iadd dL_law_979 ?_
  refine rn_ialdS (k := i + 3) dL_law_980 (ixs (by omega)).1 ((ixs (by omega)).2 _ (by omega)) ?_
  refine rn_aload_n dL_law_981 rfl rfl ?_
  refine rn_iload_n dL_law_982 rfl rfl ?_
  refine rn_iconst (v := nI 4) dL_law_983 (by decide) ?_
  refine rn_iadd dL_law_984 ?_
  refine rn_ialdS (k := i + 4) dL_law_985 (ixs (by omega)).1 ((ixs (by omega)).2 _ (by omega)) ?_
  refine rn_cV (M' := mX12_game) (n := 4) (av := [.inl (gx G (i + 1)), .inl (gx G (i + 2)), .inl (gx G (i + 3)), .inl (gx G (i + 4))]) (S := [.inl x]) (rc := 0) (rs := 0) (mc := 0) (ms := 0) (a := 94) (ci := 11) (r := (RX12, TX12, 38)) (d' := 1999) dL_law_986 pa_X12_game (Nat.le_refl _) rfl (Nat.le_of_ble_eq_true rfl) ml_L_113 im_X12_game se_X12_game rfl rfl rfl (Ev.mono (E2) ?_)
  rintro v sh2 h2 ⟨rfl, -, y, rfl, hxy, I2⟩
  show Rn G 2000 0 0 (mLw nm) 989 (LL i) [.inl y, .inl x] SH h2 QL1
  exact rn_icmp_eq (tgt := 1503) dL_law_989 (by decide) (fun _ => K h2 I2) (fun z => absurd hxy z)
set_option maxHeartbeats 4000000 in
theorem lc_odds (I : Inv h) (hi : i + 6 ≤ gn G) (hg : gn G ≤ 3072) (K : ∀ h', Inv h' → Rn G 2000 0 0 (mLw nm) 1503 (LL i) [] SH h' QL1) : Rn G 2000 0 0 (mLw nm) 994 (LL i) [] SH h QL1 := by
  refine rn_aload_n dL_law_994 rfl rfl ?_
  refine rn_aload_n dL_law_995 rfl rfl ?_
  refine rn_iload_n dL_law_996 rfl rfl ?_
  refine rn_iconst (v := nI 1) dL_law_997 (by decide) ?_
  refine rn_iadd dL_law_998 ?_
  refine rn_ialdS (k := i + 1) dL_law_999 (ixs (by omega)).1 ((ixs (by omega)).2 _ (by omega)) ?_
  refine rn_aload_n dL_law_1000 rfl rfl ?_
  refine rn_iload_n dL_law_1001 rfl rfl ?_
  refine rn_iconst (v := nI 2) dL_law_1002 (by decide) ?_
  refine rn_iadd dL_law_1003 ?_
  refine rn_ialdS (k := i + 2) dL_law_1004 (ixs (by omega)).1 ((ixs (by omega)).2 _ (by omega)) ?_
  refine rn_aload_n dL_law_1005 rfl rfl ?_
  refine rn_iload_n dL_law_1006 rfl rfl ?_
  refine rn_iconst (v := nI 3) dL_law_1007 (by decide) ?_
  refine rn_iadd dL_law_1008 ?_
  refine rn_ialdS (k := i + 3) dL_law_1009 (ixs (by omega)).1 ((ixs (by omega)).2 _ (by omega)) ?_
  refine rn_aload_n dL_law_1010 rfl rfl ?_
  refine rn_iload_n dL_law_1011 rfl rfl ?_
  refine rn_iconst (v := nI 4) dL_law_1012 (by decide) ?_
  refine rn_iadd dL_law_1013 ?_
  refine rn_ialdS (k := i + 4) dL_law_1014 (ixs (by omega)).1 ((ixs (by omega)).2 _ (by omega)) ?_
  refine rn_cV (M' := mX11_odds) (n := 4) (av := [.inl (gx G (i + 1)), .inl (gx G (i + 2)), .inl (gx G (i + 3)), .inl (gx G (i + 4))]) (S := []) (rc := 0) (rs := 0) (mc := 0) (ms := 0) (a := 0) (ci := 10) (r := (RX11, TX11, 12)) (d' := 1999) dL_law_1015 pa_X11_odds (Nat.le_refl _) rfl (Nat.le_of_ble_eq_true rfl) ml_L_114 im_X11_odds se_X11_odds rfl rfl rfl (Ev.mono (step_odds I (by omega)) ?_)
  rintro v sh1 h1 ⟨rfl, -, x, rfl, E2⟩
  show Rn G 2000 0 0 (mLw nm) 1018 (LL i) [.inr (.inl x)] SH h1 QL1
  refine rn_aload_n dL_law_1018 rfl rfl ?_
  refine rn_aload_n dL_law_1019 rfl rfl ?_
  refine rn_iload_n dL_law_1020 rfl rfl ?_
  refine rn_iconst (v := nI 1) dL_law_1021 (by decide) ?_
  refine rn_iadd dL_law_1022 ?_
  refine rn_ialdS (k := i + 1) dL_law_1023 (ixs (by omega)).1 ((ixs (by omega)).2 _ (by omega)) ?_
  refine rn_aload_n dL_law_1024 rfl rfl ?_
  refine rn_iload_n dL_law_1025 rfl rfl ?_
  refine rn_iconst (v := nI 2) dL_law_1026 (by decide) ?_
  refine rn_iadd dL_law_1027 ?_
  refine rn_ialdS (k := i + 2) dL_law_1028 (ixs (by omega)).1 ((ixs (by omega)).2 _ (by omega)) ?_
  refine rn_aload_n dL_law_1029 rfl rfl ?_
  refine rn_iload_n dL_law_1030 rfl rfl ?_
  refine rn_iconst (v := nI 3) dL_law_1031 (by decide) ?_
  refine rn_iadd dL_law_1032 ?_
  refine rn_ialdS (k := i + 3) dL_law_1033 (ixs (by omega)).1 ((ixs (by omega)).2 _ (by omega)) ?_
  refine rn_aload_n dL_law_1034 rfl rfl ?_
  refine rn_iload_n dL_law_1035 rfl rfl ?_
  refine rn_iconst (v := nI 4) dL_law_1036 (by decide) ?_
  refine rn_iadd dL_law_1037 ?_
  refine rn_ialdS (k := i + 4) dL_law_1038 (ixs (by omega)).1 ((ixs (by omega)).2 _ (by omega)) ?_
  refine rn_cV (M' := mX12_odds) (n := 4) (av := [.inl (gx G (i + 1)), .inl (gx G (i + 2)), .inl (gx G (i + 3)), .inl (gx G (i + 4))]) (S := [.inr (.inl x)]) (rc := 0) (rs := 0) (mc := 0) (ms := 0) (a := 94) (ci := 11) (r := (RX12, TX12, 38)) (d' := 1999) dL_law_1039 pa_X12_odds (Nat.le_refl _) rfl (Nat.le_of_ble_eq_true rfl) ml_L_118 im_X12_odds se_X12_odds rfl rfl rfl (Ev.mono (E2) ?_)
  rintro v sh2 h2 ⟨rfl, -, y, rfl, hxy, I2⟩
  show Rn G 2000 0 0 (mLw nm) 1042 (LL i) [.inr (.inl y), .inr (.inl x)] SH h2 QL1
  refine rn_lcmp dL_law_1042 ?_
  exact rn_if_eq (tgt := 1503) dL_law_1043 (by decide) (fun _ => K h2 I2) (fun z => absurd ((lg_cmp_eq _ _).mpr hxy) z)
set_option maxHeartbeats 4000000 in
theorem lc_carried (I : Inv h) (hi : i + 6 ≤ gn G) (hg : gn G ≤ 3072) (K : ∀ h', Inv h' → Rn G 2000 0 0 (mLw nm) 1503 (LL i) [] SH h' QL1) : Rn G 2000 0 0 (mLw nm) 1048 (LL i) [] SH h QL1 := by
  refine rn_aload_n dL_law_1048 rfl rfl ?_
  refine rn_aload_n dL_law_1049 rfl rfl ?_
  refine rn_iload_n dL_law_1050 rfl rfl ?_
  refine rn_iconst (v := nI 1) dL_law_1051 (by decide) ?_
  refine rn_iadd dL_law_1052 ?_
  refine rn_ialdS (k := i + 1) dL_law_1053 (ixs (by omega)).1 ((ixs (by omega)).2 _ (by omega)) ?_
  refine rn_aload_n dL_law_1054 rfl rfl ?_
  refine rn_iload_n dL_law_1055 rfl rfl ?_
  refine rn_iconst (v := nI 2) dL_law_1056 (by decide) ?_
  refine rn_iadd dL_law_1057 ?_
  refine rn_ialdS (k := i + 2) dL_law_1058 (ixs (by omega)).1 ((ixs (by omega)).2 _ (by omega)) ?_
  refine rn_aload_n dL_law_1059 rfl rfl ?_
  refine rn_iload_n dL_law_1060 rfl rfl ?_
  refine rn_iconst (v := nI 3) dL_law_1061 (by decide) ?_
  refine rn_iadd dL_law_1062 ?_
  refine rn_ialdS (k := i + 3) dL_law_1063 (ixs (by omega)).1 ((ixs (by omega)).2 _ (by omega)) ?_
  refine rn_aload_n dL_law_1064 rfl rfl ?_
  refine rn_iload_n dL_law_1065 rfl rfl ?_
  refine rn_iconst (v := nI 4) dL_law_1066 (by decide) ?_
  refine rn_iadd dL_law_1067 ?_
  refine rn_ialdS (k := i + 4) dL_law_1068 (ixs (by omega)).1 ((ixs (by omega)).2 _ (by omega)) ?_
  refine rn_cV (M' := mX11_carried) (n := 4) (av := [.inl (gx G (i + 1)), .inl (gx G (i + 2)), .inl (gx G (i + 3)), .inl (gx G (i + 4))]) (S := []) (rc := 0) (rs := 0) (mc := 0) (ms := 0) (a := 0) (ci := 10) (r := (RX11, TX11, 12)) (d' := 1999) dL_law_1069 pa_X11_carried (Nat.le_refl _) rfl (Nat.le_of_ble_eq_true rfl) ml_L_119 im_X11_carried se_X11_carried rfl rfl rfl (Ev.mono (step_carried I (by omega)) ?_)
  rintro v sh1 h1 ⟨rfl, -, x, rfl, E2⟩
  show Rn G 2000 0 0 (mLw nm) 1072 (LL i) [.inl x] SH h1 QL1
  refine rn_aload_n dL_law_1072 rfl rfl ?_
  refine rn_aload_n dL_law_1073 rfl rfl ?_
  refine rn_iload_n dL_law_1074 rfl rfl ?_
  refine rn_iconst (v := nI 1) dL_law_1075 (by decide) ?_
  refine rn_iadd dL_law_1076 ?_
  refine rn_ialdS (k := i + 1) dL_law_1077 (ixs (by omega)).1 ((ixs (by omega)).2 _ (by omega)) ?_
  refine rn_aload_n dL_law_1078 rfl rfl ?_
  refine rn_iload_n dL_law_1079 rfl rfl ?_
  refine rn_iconst (v := nI 2) dL_law_1080 (by decide) ?_
  refine rn_iadd dL_law_1081 ?_
  refine rn_ialdS (k := i + 2) dL_law_1082 (ixs (by omega)).1 ((ixs (by omega)).2 _ (by omega)) ?_
  refine rn_aload_n dL_law_1083 rfl rfl ?_
  refine rn_iload_n dL_law_1084 rfl rfl ?_
  refine rn_iconst (v := nI 3) dL_law_1085 (by decide) ?_
  refine rn_iadd dL_law_1086 ?_
  refine rn_ialdS (k := i + 3) dL_law_1087 (ixs (by omega)).1 ((ixs (by omega)).2 _ (by omega)) ?_
  refine rn_aload_n dL_law_1088 rfl rfl ?_
  refine rn_iload_n dL_law_1089 rfl rfl ?_
  refine rn_iconst (v := nI 4) dL_law_1090 (by decide) ?_
  refine rn_iadd dL_law_1091 ?_
  refine rn_ialdS (k := i + 4) dL_law_1092 (ixs (by omega)).1 ((ixs (by omega)).2 _ (by omega)) ?_
  refine rn_cV (M' := mX12_carried) (n := 4) (av := [.inl (gx G (i + 1)), .inl (gx G (i + 2)), .inl (gx G (i + 3)), .inl (gx G (i + 4))]) (S := [.inl x]) (rc := 0) (rs := 0) (mc := 0) (ms := 0) (a := 94) (ci := 11) (r := (RX12, TX12, 38)) (d' := 1999) dL_law_1093 pa_X12_carried (Nat.le_refl _) rfl (Nat.le_of_ble_eq_true rfl) ml_L_122 im_X12_carried se_X12_carried rfl rfl rfl (Ev.mono (E2) ?_)
  rintro v sh2 h2 ⟨rfl, -, y, rfl, hxy, I2⟩
  show Rn G 2000 0 0 (mLw nm) 1096 (LL i) [.inl y, .inl x] SH h2 QL1
  exact rn_icmp_eq (tgt := 1503) dL_law_1096 (by decide) (fun _ => K h2 I2) (fun z => absurd hxy z)
set_option maxHeartbeats 4000000 in
theorem lc_explained (I : Inv h) (hi : i + 6 ≤ gn G) (hg : gn G ≤ 3072) (K : ∀ h', Inv h' → Rn G 2000 0 0 (mLw nm) 1503 (LL i) [] SH h' QL1) : Rn G 2000 0 0 (mLw nm) 1101 (LL i) [] SH h QL1 := by
  refine rn_aload_n dL_law_1101 rfl rfl ?_
  refine rn_aload_n dL_law_1102 rfl rfl ?_
  refine rn_iload_n dL_law_1103 rfl rfl ?_
  refine rn_iconst (v := nI 1) dL_law_1104 (by decide) ?_
  refine rn_iadd dL_law_1105 ?_
  refine rn_ialdS (k := i + 1) dL_law_1106 (ixs (by omega)).1 ((ixs (by omega)).2 _ (by omega)) ?_
  refine rn_aload_n dL_law_1107 rfl rfl ?_
  refine rn_iload_n dL_law_1108 rfl rfl ?_
  refine rn_iconst (v := nI 2) dL_law_1109 (by decide) ?_
  refine rn_iadd dL_law_1110 ?_
  refine rn_ialdS (k := i + 2) dL_law_1111 (ixs (by omega)).1 ((ixs (by omega)).2 _ (by omega)) ?_
  refine rn_cV (M' := mX11_explained) (n := 2) (av := [.inl (gx G (i + 1)), .inl (gx G (i + 2))]) (S := []) (rc := 0) (rs := 0) (mc := 0) (ms := 0) (a := 0) (ci := 10) (r := (RX11, TX11, 12)) (d' := 1999) dL_law_1112 pa_X11_explained (Nat.le_refl _) rfl (Nat.le_of_ble_eq_true rfl) ml_L_123 im_X11_explained se_X11_explained rfl rfl rfl (Ev.mono (step_explained I (by omega)) ?_)
  rintro v sh1 h1 ⟨rfl, -, x, rfl, E2⟩
  show Rn G 2000 0 0 (mLw nm) 1115 (LL i) [.inl x] SH h1 QL1
  refine rn_aload_n dL_law_1115 rfl rfl ?_
  refine rn_aload_n dL_law_1116 rfl rfl ?_
  refine rn_iload_n dL_law_1117 rfl rfl ?_
  refine rn_iconst (v := nI 1) dL_law_1118 (by decide) ?_
  refine rn_iadd dL_law_1119 ?_
  refine rn_ialdS (k := i + 1) dL_law_1120 (ixs (by omega)).1 ((ixs (by omega)).2 _ (by omega)) ?_
  refine rn_aload_n dL_law_1121 rfl rfl ?_
  refine rn_iload_n dL_law_1122 rfl rfl ?_
  refine rn_iconst (v := nI 2) dL_law_1123 (by decide) ?_
  refine rn_iadd dL_law_1124 ?_
  refine rn_ialdS (k := i + 2) dL_law_1125 (ixs (by omega)).1 ((ixs (by omega)).2 _ (by omega)) ?_
  refine rn_cV (M' := mX12_explained) (n := 2) (av := [.inl (gx G (i + 1)), .inl (gx G (i + 2))]) (S := [.inl x]) (rc := 0) (rs := 0) (mc := 0) (ms := 0) (a := 94) (ci := 11) (r := (RX12, TX12, 38)) (d' := 1999) dL_law_1126 pa_X12_explained (Nat.le_refl _) rfl (Nat.le_of_ble_eq_true rfl) ml_L_126 im_X12_explained se_X12_explained rfl rfl rfl (Ev.mono (E2) ?_)
  rintro v sh2 h2 ⟨rfl, -, y, rfl, hxy, I2⟩
  show Rn G 2000 0 0 (mLw nm) 1129 (LL i) [.inl y, .inl x] SH h2 QL1
  exact rn_icmp_eq (tgt := 1503) dL_law_1129 (by decide) (fun _ => K h2 I2) (fun z => absurd hxy z)
set_option maxHeartbeats 4000000 in
theorem lc_seed (I : Inv h) (hi : i + 6 ≤ gn G) (hg : gn G ≤ 3072) (K : ∀ h', Inv h' → Rn G 2000 0 0 (mLw nm) 1503 (LL i) [] SH h' QL1) : Rn G 2000 0 0 (mLw nm) 1134 (LL i) [] SH h QL1 := by
  refine rn_aload_n dL_law_1134 rfl rfl ?_
  refine rn_aload_n dL_law_1135 rfl rfl ?_
  refine rn_iload_n dL_law_1136 rfl rfl ?_
  refine rn_iconst (v := nI 1) dL_law_1137 (by decide) ?_
  refine rn_iadd dL_law_1138 ?_
  refine rn_ialdS (k := i + 1) dL_law_1139 (ixs (by omega)).1 ((ixs (by omega)).2 _ (by omega)) ?_
  refine rn_cV (M' := mX11_seed) (n := 1) (av := [.inl (gx G (i + 1))]) (S := []) (rc := 0) (rs := 0) (mc := 0) (ms := 0) (a := 0) (ci := 10) (r := (RX11, TX11, 12)) (d' := 1999) dL_law_1140 pa_X11_seed (Nat.le_refl _) rfl (Nat.le_of_ble_eq_true rfl) ml_L_127 im_X11_seed se_X11_seed rfl rfl rfl (Ev.mono (step_seed I (by omega)) ?_)
  rintro v sh1 h1 ⟨rfl, -, x, rfl, E2⟩
  show Rn G 2000 0 0 (mLw nm) 1143 (LL i) [.inl x] SH h1 QL1
  refine rn_aload_n dL_law_1143 rfl rfl ?_
  refine rn_aload_n dL_law_1144 rfl rfl ?_
  refine rn_iload_n dL_law_1145 rfl rfl ?_
  refine rn_iconst (v := nI 1) dL_law_1146 (by decide) ?_
  refine rn_iadd dL_law_1147 ?_
  refine rn_ialdS (k := i + 1) dL_law_1148 (ixs (by omega)).1 ((ixs (by omega)).2 _ (by omega)) ?_
  refine rn_cV (M' := mX12_seed) (n := 1) (av := [.inl (gx G (i + 1))]) (S := [.inl x]) (rc := 0) (rs := 0) (mc := 0) (ms := 0) (a := 94) (ci := 11) (r := (RX12, TX12, 38)) (d' := 1999) dL_law_1149 pa_X12_seed (Nat.le_refl _) rfl (Nat.le_of_ble_eq_true rfl) ml_L_130 im_X12_seed se_X12_seed rfl rfl rfl (Ev.mono (E2) ?_)
  rintro v sh2 h2 ⟨rfl, -, y, rfl, hxy, I2⟩
  show Rn G 2000 0 0 (mLw nm) 1152 (LL i) [.inl y, .inl x] SH h2 QL1
  exact rn_icmp_eq (tgt := 1503) dL_law_1152 (by decide) (fun _ => K h2 I2) (fun z => absurd hxy z)
set_option maxHeartbeats 4000000 in
theorem lc_voice (I : Inv h) (hi : i + 6 ≤ gn G) (hg : gn G ≤ 3072) (K : ∀ h', Inv h' → Rn G 2000 0 0 (mLw nm) 1503 (LL i) [] SH h' QL1) : Rn G 2000 0 0 (mLw nm) 1157 (LL i) [] SH h QL1 := by
  refine rn_aload_n dL_law_1157 rfl rfl ?_
  refine rn_aload_n dL_law_1158 rfl rfl ?_
  refine rn_iload_n dL_law_1159 rfl rfl ?_
  refine rn_iconst (v := nI 1) dL_law_1160 (by decide) ?_
  refine rn_iadd dL_law_1161 ?_
  refine rn_ialdS (k := i + 1) dL_law_1162 (ixs (by omega)).1 ((ixs (by omega)).2 _ (by omega)) ?_
  refine rn_aload_n dL_law_1163 rfl rfl ?_
  refine rn_iload_n dL_law_1164 rfl rfl ?_
  refine rn_iconst (v := nI 2) dL_law_1165 (by decide) ?_
  refine rn_iadd dL_law_1166 ?_
  refine rn_ialdS (k := i + 2) dL_law_1167 (ixs (by omega)).1 ((ixs (by omega)).2 _ (by omega)) ?_
  refine rn_aload_n dL_law_1168 rfl rfl ?_
  refine rn_iload_n dL_law_1169 rfl rfl ?_
  refine rn_iconst (v := nI 3) dL_law_1170 (by decide) ?_
  refine rn_iadd dL_law_1171 ?_
  refine rn_ialdS (k := i + 3) dL_law_1172 (ixs (by omega)).1 ((ixs (by omega)).2 _ (by omega)) ?_
  refine rn_cV (M' := mX11_voice) (n := 3) (av := [.inl (gx G (i + 1)), .inl (gx G (i + 2)), .inl (gx G (i + 3))]) (S := []) (rc := 0) (rs := 0) (mc := 0) (ms := 0) (a := 0) (ci := 10) (r := (RX11, TX11, 12)) (d' := 1999) dL_law_1173 pa_X11_voice (Nat.le_refl _) rfl (Nat.le_of_ble_eq_true rfl) ml_L_131 im_X11_voice se_X11_voice rfl rfl rfl (Ev.mono (step_voice I (by omega)) ?_)
  rintro v sh1 h1 ⟨rfl, -, x, rfl, E2⟩
  show Rn G 2000 0 0 (mLw nm) 1176 (LL i) [.inl x] SH h1 QL1
  refine rn_aload_n dL_law_1176 rfl rfl ?_
  refine rn_aload_n dL_law_1177 rfl rfl ?_
  refine rn_iload_n dL_law_1178 rfl rfl ?_
  refine rn_iconst (v := nI 1) dL_law_1179 (by decide) ?_
  refine rn_iadd dL_law_1180 ?_
  refine rn_ialdS (k := i + 1) dL_law_1181 (ixs (by omega)).1 ((ixs (by omega)).2 _ (by omega)) ?_
  refine rn_aload_n dL_law_1182 rfl rfl ?_
  refine rn_iload_n dL_law_1183 rfl rfl ?_
  refine rn_iconst (v := nI 2) dL_law_1184 (by decide) ?_
  refine rn_iadd dL_law_1185 ?_
  refine rn_ialdS (k := i + 2) dL_law_1186 (ixs (by omega)).1 ((ixs (by omega)).2 _ (by omega)) ?_
  refine rn_aload_n dL_law_1187 rfl rfl ?_
  refine rn_iload_n dL_law_1188 rfl rfl ?_
  refine rn_iconst (v := nI 3) dL_law_1189 (by decide) ?_
  refine rn_iadd dL_law_1190 ?_
  refine rn_ialdS (k := i + 3) dL_law_1191 (ixs (by omega)).1 ((ixs (by omega)).2 _ (by omega)) ?_
  refine rn_cV (M' := mX12_voice) (n := 3) (av := [.inl (gx G (i + 1)), .inl (gx G (i + 2)), .inl (gx G (i + 3))]) (S := [.inl x]) (rc := 0) (rs := 0) (mc := 0) (ms := 0) (a := 94) (ci := 11) (r := (RX12, TX12, 38)) (d' := 1999) dL_law_1192 pa_X12_voice (Nat.le_refl _) rfl (Nat.le_of_ble_eq_true rfl) ml_L_134 im_X12_voice se_X12_voice rfl rfl rfl (Ev.mono (E2) ?_)
  rintro v sh2 h2 ⟨rfl, -, y, rfl, hxy, I2⟩
  show Rn G 2000 0 0 (mLw nm) 1195 (LL i) [.inl y, .inl x] SH h2 QL1
  exact rn_icmp_eq (tgt := 1503) dL_law_1195 (by decide) (fun _ => K h2 I2) (fun z => absurd hxy z)
set_option maxHeartbeats 4000000 in
theorem lc_trace (I : Inv h) (hi : i + 6 ≤ gn G) (hg : gn G ≤ 3072) (K : ∀ h', Inv h' → Rn G 2000 0 0 (mLw nm) 1503 (LL i) [] SH h' QL1) : Rn G 2000 0 0 (mLw nm) 1200 (LL i) [] SH h QL1 := by
  refine rn_aload_n dL_law_1200 rfl rfl ?_
  refine rn_aload_n dL_law_1201 rfl rfl ?_
  refine rn_iload_n dL_law_1202 rfl rfl ?_
  refine rn_iconst (v := nI 1) dL_law_1203 (by decide) ?_
  refine rn_iadd dL_law_1204 ?_
  refine rn_ialdS (k := i + 1) dL_law_1205 (ixs (by omega)).1 ((ixs (by omega)).2 _ (by omega)) ?_
  refine rn_cV (M' := mX11_trace) (n := 1) (av := [.inl (gx G (i + 1))]) (S := []) (rc := 0) (rs := 0) (mc := 0) (ms := 0) (a := 0) (ci := 10) (r := (RX11, TX11, 12)) (d' := 1999) dL_law_1206 pa_X11_trace (Nat.le_refl _) rfl (Nat.le_of_ble_eq_true rfl) ml_L_135 im_X11_trace se_X11_trace rfl rfl rfl (Ev.mono (step_trace I (by omega)) ?_)
  rintro v sh1 h1 ⟨rfl, -, x, rfl, E2⟩
  show Rn G 2000 0 0 (mLw nm) 1209 (LL i) [.inl x] SH h1 QL1
  refine rn_aload_n dL_law_1209 rfl rfl ?_
  refine rn_aload_n dL_law_1210 rfl rfl ?_
  refine rn_iload_n dL_law_1211 rfl rfl ?_
  refine rn_iconst (v := nI 1) dL_law_1212 (by decide) ?_
  refine rn_iadd dL_law_1213 ?_
  refine rn_ialdS (k := i + 1) dL_law_1214 (ixs (by omega)).1 ((ixs (by omega)).2 _ (by omega)) ?_
  refine rn_cV (M' := mX12_trace) (n := 1) (av := [.inl (gx G (i + 1))]) (S := [.inl x]) (rc := 0) (rs := 0) (mc := 0) (ms := 0) (a := 94) (ci := 11) (r := (RX12, TX12, 38)) (d' := 1999) dL_law_1215 pa_X12_trace (Nat.le_refl _) rfl (Nat.le_of_ble_eq_true rfl) ml_L_138 im_X12_trace se_X12_trace rfl rfl rfl (Ev.mono (E2) ?_)
  rintro v sh2 h2 ⟨rfl, -, y, rfl, hxy, I2⟩
  show Rn G 2000 0 0 (mLw nm) 1218 (LL i) [.inl y, .inl x] SH h2 QL1
  exact rn_icmp_eq (tgt := 1503) dL_law_1218 (by decide) (fun _ => K h2 I2) (fun z => absurd hxy z)
set_option maxHeartbeats 4000000 in
theorem lc_sheet (I : Inv h) (hi : i + 6 ≤ gn G) (hg : gn G ≤ 3072) (K : ∀ h', Inv h' → Rn G 2000 0 0 (mLw nm) 1503 (LL i) [] SH h' QL1) : Rn G 2000 0 0 (mLw nm) 1223 (LL i) [] SH h QL1 := by
  refine rn_aload_n dL_law_1223 rfl rfl ?_
  refine rn_aload_n dL_law_1224 rfl rfl ?_
  refine rn_iload_n dL_law_1225 rfl rfl ?_
  refine rn_iconst (v := nI 1) dL_law_1226 (by decide) ?_
  refine rn_iadd dL_law_1227 ?_
  refine rn_ialdS (k := i + 1) dL_law_1228 (ixs (by omega)).1 ((ixs (by omega)).2 _ (by omega)) ?_
  refine rn_aload_n dL_law_1229 rfl rfl ?_
  refine rn_iload_n dL_law_1230 rfl rfl ?_
  refine rn_iconst (v := nI 2) dL_law_1231 (by decide) ?_
  refine rn_iadd dL_law_1232 ?_
  refine rn_ialdS (k := i + 2) dL_law_1233 (ixs (by omega)).1 ((ixs (by omega)).2 _ (by omega)) ?_
  refine rn_aload_n dL_law_1234 rfl rfl ?_
  refine rn_iload_n dL_law_1235 rfl rfl ?_
  refine rn_iconst (v := nI 3) dL_law_1236 (by decide) ?_
  refine rn_iadd dL_law_1237 ?_
  refine rn_ialdS (k := i + 3) dL_law_1238 (ixs (by omega)).1 ((ixs (by omega)).2 _ (by omega)) ?_
  refine rn_cV (M' := mX11_sheet) (n := 3) (av := [.inl (gx G (i + 1)), .inl (gx G (i + 2)), .inl (gx G (i + 3))]) (S := []) (rc := 0) (rs := 0) (mc := 0) (ms := 0) (a := 0) (ci := 10) (r := (RX11, TX11, 12)) (d' := 1999) dL_law_1239 pa_X11_sheet (Nat.le_refl _) rfl (Nat.le_of_ble_eq_true rfl) ml_L_139 im_X11_sheet se_X11_sheet rfl rfl rfl (Ev.mono (step_sheet I (by omega)) ?_)
  rintro v sh1 h1 ⟨rfl, -, x, rfl, E2⟩
  show Rn G 2000 0 0 (mLw nm) 1242 (LL i) [.inl x] SH h1 QL1
  refine rn_aload_n dL_law_1242 rfl rfl ?_
  refine rn_aload_n dL_law_1243 rfl rfl ?_
  refine rn_iload_n dL_law_1244 rfl rfl ?_
  refine rn_iconst (v := nI 1) dL_law_1245 (by decide) ?_
  refine rn_iadd dL_law_1246 ?_
  refine rn_ialdS (k := i + 1) dL_law_1247 (ixs (by omega)).1 ((ixs (by omega)).2 _ (by omega)) ?_
  refine rn_aload_n dL_law_1248 rfl rfl ?_
  refine rn_iload_n dL_law_1249 rfl rfl ?_
  refine rn_iconst (v := nI 2) dL_law_1250 (by decide) ?_
  refine rn_iadd dL_law_1251 ?_
  refine rn_ialdS (k := i + 2) dL_law_1252 (ixs (by omega)).1 ((ixs (by omega)).2 _ (by omega)) ?_
  refine rn_aload_n dL_law_1253 rfl rfl ?_
  refine rn_iload_n dL_law_1254 rfl rfl ?_
  refine rn_iconst (v := nI 3) dL_law_1255 (by decide) ?_
  refine rn_iadd dL_law_1256 ?_
  refine rn_ialdS (k := i + 3) dL_law_1257 (ixs (by omega)).1 ((ixs (by omega)).2 _ (by omega)) ?_
  refine rn_cV (M' := mX12_sheet) (n := 3) (av := [.inl (gx G (i + 1)), .inl (gx G (i + 2)), .inl (gx G (i + 3))]) (S := [.inl x]) (rc := 0) (rs := 0) (mc := 0) (ms := 0) (a := 94) (ci := 11) (r := (RX12, TX12, 38)) (d' := 1999) dL_law_1258 pa_X12_sheet (Nat.le_refl _) rfl (Nat.le_of_ble_eq_true rfl) ml_L_142 im_X12_sheet se_X12_sheet rfl rfl rfl (Ev.mono (E2) ?_)
  rintro v sh2 h2 ⟨rfl, -, y, rfl, hxy, I2⟩
  show Rn G 2000 0 0 (mLw nm) 1261 (LL i) [.inl y, .inl x] SH h2 QL1
  exact rn_icmp_eq (tgt := 1503) dL_law_1261 (by decide) (fun _ => K h2 I2) (fun z => absurd hxy z)
set_option maxHeartbeats 4000000 in
theorem lc_put (I : Inv h) (hi : i + 6 ≤ gn G) (hg : gn G ≤ 3072) (K : ∀ h', Inv h' → Rn G 2000 0 0 (mLw nm) 1503 (LL i) [] SH h' QL1) : Rn G 2000 0 0 (mLw nm) 1266 (LL i) [] SH h QL1 := by
  refine rn_aload_n dL_law_1266 rfl rfl ?_
  refine rn_aload_n dL_law_1267 rfl rfl ?_
  refine rn_iload_n dL_law_1268 rfl rfl ?_
  refine rn_iconst (v := nI 1) dL_law_1269 (by decide) ?_
  refine rn_iadd dL_law_1270 ?_
  refine rn_ialdS (k := i + 1) dL_law_1271 (ixs (by omega)).1 ((ixs (by omega)).2 _ (by omega)) ?_
  refine rn_aload_n dL_law_1272 rfl rfl ?_
  refine rn_iload_n dL_law_1273 rfl rfl ?_
  refine rn_iconst (v := nI 2) dL_law_1274 (by decide) ?_
  refine rn_iadd dL_law_1275 ?_
  refine rn_ialdS (k := i + 2) dL_law_1276 (ixs (by omega)).1 ((ixs (by omega)).2 _ (by omega)) ?_
  refine rn_aload_n dL_law_1277 rfl rfl ?_
  refine rn_iload_n dL_law_1278 rfl rfl ?_
  refine rn_iconst (v := nI 3) dL_law_1279 (by decide) ?_
  refine rn_iadd dL_law_1280 ?_
  refine rn_ialdS (k := i + 3) dL_law_1281 (ixs (by omega)).1 ((ixs (by omega)).2 _ (by omega)) ?_
  refine rn_cV (M' := mX11_put) (n := 3) (av := [.inl (gx G (i + 1)), .inl (gx G (i + 2)), .inl (gx G (i + 3))]) (S := []) (rc := 0) (rs := 0) (mc := 0) (ms := 0) (a := 0) (ci := 10) (r := (RX11, TX11, 12)) (d' := 1999) dL_law_1282 pa_X11_put (Nat.le_refl _) rfl (Nat.le_of_ble_eq_true rfl) ml_L_143 im_X11_put se_X11_put rfl rfl rfl (Ev.mono (step_put I (by omega)) ?_)
  rintro v sh1 h1 ⟨rfl, -, x, rfl, E2⟩
  show Rn G 2000 0 0 (mLw nm) 1285 (LL i) [.inl x] SH h1 QL1
  refine rn_aload_n dL_law_1285 rfl rfl ?_
  refine rn_aload_n dL_law_1286 rfl rfl ?_
  refine rn_iload_n dL_law_1287 rfl rfl ?_
  refine rn_iconst (v := nI 1) dL_law_1288 (by decide) ?_
  refine rn_iadd dL_law_1289 ?_
  refine rn_ialdS (k := i + 1) dL_law_1290 (ixs (by omega)).1 ((ixs (by omega)).2 _ (by omega)) ?_
  refine rn_aload_n dL_law_1291 rfl rfl ?_
  refine rn_iload_n dL_law_1292 rfl rfl ?_
  refine rn_iconst (v := nI 2) dL_law_1293 (by decide) ?_
  refine rn_iadd dL_law_1294 ?_
  refine rn_ialdS (k := i + 2) dL_law_1295 (ixs (by omega)).1 ((ixs (by omega)).2 _ (by omega)) ?_
  refine rn_aload_n dL_law_1296 rfl rfl ?_
  refine rn_iload_n dL_law_1297 rfl rfl ?_
  refine rn_iconst (v := nI 3) dL_law_1298 (by decide) ?_
  refine rn_iadd dL_law_1299 ?_
  refine rn_ialdS (k := i + 3) dL_law_1300 (ixs (by omega)).1 ((ixs (by omega)).2 _ (by omega)) ?_
  refine rn_cV (M' := mX12_put) (n := 3) (av := [.inl (gx G (i + 1)), .inl (gx G (i + 2)), .inl (gx G (i + 3))]) (S := [.inl x]) (rc := 0) (rs := 0) (mc := 0) (ms := 0) (a := 94) (ci := 11) (r := (RX12, TX12, 38)) (d' := 1999) dL_law_1301 pa_X12_put (Nat.le_refl _) rfl (Nat.le_of_ble_eq_true rfl) ml_L_146 im_X12_put se_X12_put rfl rfl rfl (Ev.mono (E2) ?_)
  rintro v sh2 h2 ⟨rfl, -, y, rfl, hxy, I2⟩
  show Rn G 2000 0 0 (mLw nm) 1304 (LL i) [.inl y, .inl x] SH h2 QL1
  exact rn_icmp_eq (tgt := 1503) dL_law_1304 (by decide) (fun _ => K h2 I2) (fun z => absurd hxy z)
set_option maxHeartbeats 4000000 in
theorem lc_move (I : Inv h) (hi : i + 6 ≤ gn G) (hg : gn G ≤ 3072) (K : ∀ h', Inv h' → Rn G 2000 0 0 (mLw nm) 1503 (LL i) [] SH h' QL1) : Rn G 2000 0 0 (mLw nm) 1309 (LL i) [] SH h QL1 := by
  refine rn_aload_n dL_law_1309 rfl rfl ?_
  refine rn_aload_n dL_law_1310 rfl rfl ?_
  refine rn_iload_n dL_law_1311 rfl rfl ?_
  refine rn_iconst (v := nI 1) dL_law_1312 (by decide) ?_
  refine rn_iadd dL_law_1313 ?_
  refine rn_ialdS (k := i + 1) dL_law_1314 (ixs (by omega)).1 ((ixs (by omega)).2 _ (by omega)) ?_
  refine rn_aload_n dL_law_1315 rfl rfl ?_
  refine rn_iload_n dL_law_1316 rfl rfl ?_
  refine rn_iconst (v := nI 2) dL_law_1317 (by decide) ?_
  refine rn_iadd dL_law_1318 ?_
  refine rn_ialdS (k := i + 2) dL_law_1319 (ixs (by omega)).1 ((ixs (by omega)).2 _ (by omega)) ?_
  refine rn_aload_n dL_law_1320 rfl rfl ?_
  refine rn_iload_n dL_law_1321 rfl rfl ?_
  refine rn_iconst (v := nI 3) dL_law_1322 (by decide) ?_
  refine rn_iadd dL_law_1323 ?_
  refine rn_ialdS (k := i + 3) dL_law_1324 (ixs (by omega)).1 ((ixs (by omega)).2 _ (by omega)) ?_
  refine rn_aload_n dL_law_1325 rfl rfl ?_
  refine rn_iload_n dL_law_1326 rfl rfl ?_
  refine rn_iconst (v := nI 4) dL_law_1327 (by decide) ?_
  refine rn_iadd dL_law_1328 ?_
  refine rn_ialdS (k := i + 4) dL_law_1329 (ixs (by omega)).1 ((ixs (by omega)).2 _ (by omega)) ?_
  refine rn_aload_n dL_law_1330 rfl rfl ?_
  refine rn_iload_n dL_law_1331 rfl rfl ?_
  refine rn_iconst (v := nI 5) dL_law_1332 (by decide) ?_
  refine rn_iadd dL_law_1333 ?_
  refine rn_ialdS (k := i + 5) dL_law_1334 (ixs (by omega)).1 ((ixs (by omega)).2 _ (by omega)) ?_
  refine rn_cV (M' := mX11_move) (n := 5) (av := [.inl (gx G (i + 1)), .inl (gx G (i + 2)), .inl (gx G (i + 3)), .inl (gx G (i + 4)), .inl (gx G (i + 5))]) (S := []) (rc := 0) (rs := 0) (mc := 0) (ms := 0) (a := 0) (ci := 10) (r := (RX11, TX11, 12)) (d' := 1999) dL_law_1335 pa_X11_move (Nat.le_refl _) rfl (Nat.le_of_ble_eq_true rfl) ml_L_147 im_X11_move se_X11_move rfl rfl rfl (Ev.mono (step_move I (by omega)) ?_)
  rintro v sh1 h1 ⟨rfl, -, x, rfl, E2⟩
  show Rn G 2000 0 0 (mLw nm) 1338 (LL i) [.inl x] SH h1 QL1
  refine rn_aload_n dL_law_1338 rfl rfl ?_
  refine rn_aload_n dL_law_1339 rfl rfl ?_
  refine rn_iload_n dL_law_1340 rfl rfl ?_
  refine rn_iconst (v := nI 1) dL_law_1341 (by decide) ?_
  refine rn_iadd dL_law_1342 ?_
  refine rn_ialdS (k := i + 1) dL_law_1343 (ixs (by omega)).1 ((ixs (by omega)).2 _ (by omega)) ?_
  refine rn_aload_n dL_law_1344 rfl rfl ?_
  refine rn_iload_n dL_law_1345 rfl rfl ?_
  refine rn_iconst (v := nI 2) dL_law_1346 (by decide) ?_
  refine rn_iadd dL_law_1347 ?_
  refine rn_ialdS (k := i + 2) dL_law_1348 (ixs (by omega)).1 ((ixs (by omega)).2 _ (by omega)) ?_
  refine rn_aload_n dL_law_1349 rfl rfl ?_
  refine rn_iload_n dL_law_1350 rfl rfl ?_
  refine rn_iconst (v := nI 3) dL_law_1351 (by decide) ?_
  refine rn_iadd dL_law_1352 ?_
  refine rn_ialdS (k := i + 3) dL_law_1353 (ixs (by omega)).1 ((ixs (by omega)).2 _ (by omega)) ?_
  refine rn_aload_n dL_law_1354 rfl rfl ?_
  refine rn_iload_n dL_law_1355 rfl rfl ?_
  refine rn_iconst (v := nI 4) dL_law_1356 (by decide) ?_
  refine rn_iadd dL_law_1357 ?_
  refine rn_ialdS (k := i + 4) dL_law_1358 (ixs (by omega)).1 ((ixs (by omega)).2 _ (by omega)) ?_
  refine rn_aload_n dL_law_1359 rfl rfl ?_
  refine rn_iload_n dL_law_1360 rfl rfl ?_
  refine rn_iconst (v := nI 5) dL_law_1361 (by decide) ?_
  refine rn_iadd dL_law_1362 ?_
  refine rn_ialdS (k := i + 5) dL_law_1363 (ixs (by omega)).1 ((ixs (by omega)).2 _ (by omega)) ?_
  refine rn_cV (M' := mX12_move) (n := 5) (av := [.inl (gx G (i + 1)), .inl (gx G (i + 2)), .inl (gx G (i + 3)), .inl (gx G (i + 4)), .inl (gx G (i + 5))]) (S := [.inl x]) (rc := 0) (rs := 0) (mc := 0) (ms := 0) (a := 94) (ci := 11) (r := (RX12, TX12, 38)) (d' := 1999) dL_law_1364 pa_X12_move (Nat.le_refl _) rfl (Nat.le_of_ble_eq_true rfl) ml_L_151 im_X12_move se_X12_move rfl rfl rfl (Ev.mono (E2) ?_)
  rintro v sh2 h2 ⟨rfl, -, y, rfl, hxy, I2⟩
  show Rn G 2000 0 0 (mLw nm) 1367 (LL i) [.inl y, .inl x] SH h2 QL1
  exact rn_icmp_eq (tgt := 1503) dL_law_1367 (by decide) (fun _ => K h2 I2) (fun z => absurd hxy z)
set_option maxHeartbeats 4000000 in
theorem lc_judge (I : Inv h) (hi : i + 6 ≤ gn G) (hg : gn G ≤ 3072) (K : ∀ h', Inv h' → Rn G 2000 0 0 (mLw nm) 1503 (LL i) [] SH h' QL1) : Rn G 2000 0 0 (mLw nm) 1372 (LL i) [] SH h QL1 := by
  refine rn_aload_n dL_law_1372 rfl rfl ?_
  refine rn_aload_n dL_law_1373 rfl rfl ?_
  refine rn_iload_n dL_law_1374 rfl rfl ?_
  refine rn_iconst (v := nI 1) dL_law_1375 (by decide) ?_
  refine rn_iadd dL_law_1376 ?_
  refine rn_ialdS (k := i + 1) dL_law_1377 (ixs (by omega)).1 ((ixs (by omega)).2 _ (by omega)) ?_
  refine rn_cV (M' := mX11_judge) (n := 1) (av := [.inl (gx G (i + 1))]) (S := []) (rc := 0) (rs := 0) (mc := 0) (ms := 0) (a := 0) (ci := 10) (r := (RX11, TX11, 12)) (d' := 1999) dL_law_1378 pa_X11_judge (Nat.le_refl _) rfl (Nat.le_of_ble_eq_true rfl) ml_L_152 im_X11_judge se_X11_judge rfl rfl rfl (Ev.mono (step_judge I (by omega)) ?_)
  rintro v sh1 h1 ⟨rfl, -, x, rfl, E2⟩
  show Rn G 2000 0 0 (mLw nm) 1381 (LL i) [.inl x] SH h1 QL1
  refine rn_aload_n dL_law_1381 rfl rfl ?_
  refine rn_aload_n dL_law_1382 rfl rfl ?_
  refine rn_iload_n dL_law_1383 rfl rfl ?_
  refine rn_iconst (v := nI 1) dL_law_1384 (by decide) ?_
  refine rn_iadd dL_law_1385 ?_
  refine rn_ialdS (k := i + 1) dL_law_1386 (ixs (by omega)).1 ((ixs (by omega)).2 _ (by omega)) ?_
  refine rn_cV (M' := mX12_judge) (n := 1) (av := [.inl (gx G (i + 1))]) (S := [.inl x]) (rc := 0) (rs := 0) (mc := 0) (ms := 0) (a := 94) (ci := 11) (r := (RX12, TX12, 38)) (d' := 1999) dL_law_1387 pa_X12_judge (Nat.le_refl _) rfl (Nat.le_of_ble_eq_true rfl) ml_L_155 im_X12_judge se_X12_judge rfl rfl rfl (Ev.mono (E2) ?_)
  rintro v sh2 h2 ⟨rfl, -, y, rfl, hxy, I2⟩
  show Rn G 2000 0 0 (mLw nm) 1390 (LL i) [.inl y, .inl x] SH h2 QL1
  exact rn_icmp_eq (tgt := 1503) dL_law_1390 (by decide) (fun _ => K h2 I2) (fun z => absurd hxy z)
set_option maxHeartbeats 4000000 in
theorem lc_image (I : Inv h) (hi : i + 6 ≤ gn G) (hg : gn G ≤ 3072) (K : ∀ h', Inv h' → Rn G 2000 0 0 (mLw nm) 1503 (LL i) [] SH h' QL1) : Rn G 2000 0 0 (mLw nm) 1395 (LL i) [] SH h QL1 := by
  refine rn_aload_n dL_law_1395 rfl rfl ?_
  refine rn_cV (M' := mX11_image) (n := 0) (av := []) (S := []) (rc := 0) (rs := 0) (mc := 0) (ms := 0) (a := 0) (ci := 10) (r := (RX11, TX11, 12)) (d' := 1999) dL_law_1396 pa_X11_image (Nat.le_refl _) rfl (Nat.le_of_ble_eq_true rfl) ml_L_156 im_X11_image se_X11_image rfl rfl rfl (Ev.mono (step_image I (by omega)) ?_)
  rintro v sh1 h1 ⟨rfl, -, x, rfl, E2⟩
  show Rn G 2000 0 0 (mLw nm) 1399 (LL i) [.inl x] SH h1 QL1
  refine rn_aload_n dL_law_1399 rfl rfl ?_
  refine rn_cV (M' := mX12_image) (n := 0) (av := []) (S := [.inl x]) (rc := 0) (rs := 0) (mc := 0) (ms := 0) (a := 94) (ci := 11) (r := (RX12, TX12, 38)) (d' := 1999) dL_law_1400 pa_X12_image (Nat.le_refl _) rfl (Nat.le_of_ble_eq_true rfl) ml_L_159 im_X12_image se_X12_image rfl rfl rfl (Ev.mono (E2) ?_)
  rintro v sh2 h2 ⟨rfl, -, y, rfl, hxy, I2⟩
  show Rn G 2000 0 0 (mLw nm) 1403 (LL i) [.inl y, .inl x] SH h2 QL1
  exact rn_icmp_eq (tgt := 1503) dL_law_1403 (by decide) (fun _ => K h2 I2) (fun z => absurd hxy z)
set_option maxHeartbeats 4000000 in
theorem lc_restore (I : Inv h) (hi : i + 6 ≤ gn G) (hg : gn G ≤ 3072) (K : ∀ h', Inv h' → Rn G 2000 0 0 (mLw nm) 1503 (LL i) [] SH h' QL1) : Rn G 2000 0 0 (mLw nm) 1408 (LL i) [] SH h QL1 := by
  refine rn_aload_n dL_law_1408 rfl rfl ?_
  refine rn_cV (M' := mX11_restore) (n := 0) (av := []) (S := []) (rc := 0) (rs := 0) (mc := 0) (ms := 0) (a := 0) (ci := 10) (r := (RX11, TX11, 12)) (d' := 1999) dL_law_1409 pa_X11_restore (Nat.le_refl _) rfl (Nat.le_of_ble_eq_true rfl) ml_L_160 im_X11_restore se_X11_restore rfl rfl rfl (Ev.mono (step_restore I (by omega)) ?_)
  rintro v sh1 h1 ⟨rfl, -, x, rfl, E2⟩
  show Rn G 2000 0 0 (mLw nm) 1412 (LL i) [.inl x] SH h1 QL1
  refine rn_aload_n dL_law_1412 rfl rfl ?_
  refine rn_cV (M' := mX12_restore) (n := 0) (av := []) (S := [.inl x]) (rc := 0) (rs := 0) (mc := 0) (ms := 0) (a := 94) (ci := 11) (r := (RX12, TX12, 38)) (d' := 1999) dL_law_1413 pa_X12_restore (Nat.le_refl _) rfl (Nat.le_of_ble_eq_true rfl) ml_L_163 im_X12_restore se_X12_restore rfl rfl rfl (Ev.mono (E2) ?_)
  rintro v sh2 h2 ⟨rfl, -, y, rfl, hxy, I2⟩
  show Rn G 2000 0 0 (mLw nm) 1416 (LL i) [.inl y, .inl x] SH h2 QL1
  exact rn_icmp_eq (tgt := 1503) dL_law_1416 (by decide) (fun _ => K h2 I2) (fun z => absurd hxy z)
set_option maxHeartbeats 4000000 in
theorem lc_tell (I : Inv h) (hi : i + 6 ≤ gn G) (hg : gn G ≤ 3072) (K : ∀ h', Inv h' → Rn G 2000 0 0 (mLw nm) 1503 (LL i) [] SH h' QL1) : Rn G 2000 0 0 (mLw nm) 1421 (LL i) [] SH h QL1 := by
  refine rn_aload_n dL_law_1421 rfl rfl ?_
  refine rn_aload_n dL_law_1422 rfl rfl ?_
  refine rn_iload_n dL_law_1423 rfl rfl ?_
  refine rn_iconst (v := nI 1) dL_law_1424 (by decide) ?_
  refine rn_iadd dL_law_1425 ?_
  refine rn_ialdS (k := i + 1) dL_law_1426 (ixs (by omega)).1 ((ixs (by omega)).2 _ (by omega)) ?_
  refine rn_cV (M' := mX11_tell) (n := 1) (av := [.inl (gx G (i + 1))]) (S := []) (rc := 0) (rs := 0) (mc := 0) (ms := 0) (a := 0) (ci := 10) (r := (RX11, TX11, 12)) (d' := 1999) dL_law_1427 pa_X11_tell (Nat.le_refl _) rfl (Nat.le_of_ble_eq_true rfl) ml_L_164 im_X11_tell se_X11_tell rfl rfl rfl (Ev.mono (step_tell I (by omega)) ?_)
  rintro v sh1 h1 ⟨rfl, -, x, rfl, E2⟩
  show Rn G 2000 0 0 (mLw nm) 1430 (LL i) [.inl x] SH h1 QL1
  refine rn_aload_n dL_law_1430 rfl rfl ?_
  refine rn_aload_n dL_law_1431 rfl rfl ?_
  refine rn_iload_n dL_law_1432 rfl rfl ?_
  refine rn_iconst (v := nI 1) dL_law_1433 (by decide) ?_
  refine rn_iadd dL_law_1434 ?_
  refine rn_ialdS (k := i + 1) dL_law_1435 (ixs (by omega)).1 ((ixs (by omega)).2 _ (by omega)) ?_
  refine rn_cV (M' := mX12_tell) (n := 1) (av := [.inl (gx G (i + 1))]) (S := [.inl x]) (rc := 0) (rs := 0) (mc := 0) (ms := 0) (a := 94) (ci := 11) (r := (RX12, TX12, 38)) (d' := 1999) dL_law_1436 pa_X12_tell (Nat.le_refl _) rfl (Nat.le_of_ble_eq_true rfl) ml_L_167 im_X12_tell se_X12_tell rfl rfl rfl (Ev.mono (E2) ?_)
  rintro v sh2 h2 ⟨rfl, -, y, rfl, hxy, I2⟩
  show Rn G 2000 0 0 (mLw nm) 1439 (LL i) [.inl y, .inl x] SH h2 QL1
  exact rn_icmp_eq (tgt := 1503) dL_law_1439 (by decide) (fun _ => K h2 I2) (fun z => absurd hxy z)
set_option maxHeartbeats 4000000 in
theorem lc_check (I : Inv h) (hi : i + 6 ≤ gn G) (hg : gn G ≤ 3072) (K : ∀ h', Inv h' → Rn G 2000 0 0 (mLw nm) 1503 (LL i) [] SH h' QL1) : Rn G 2000 0 0 (mLw nm) 1444 (LL i) [] SH h QL1 := by
  refine rn_aload_n dL_law_1444 rfl rfl ?_
  refine rn_cV (M' := mX11_check) (n := 0) (av := []) (S := []) (rc := 0) (rs := 0) (mc := 0) (ms := 0) (a := 0) (ci := 10) (r := (RX11, TX11, 12)) (d' := 1999) dL_law_1445 pa_X11_check (Nat.le_refl _) rfl (Nat.le_of_ble_eq_true rfl) ml_L_168 im_X11_check se_X11_check rfl rfl rfl (Ev.mono (step_check I (by omega)) ?_)
  rintro v sh1 h1 ⟨rfl, -, x, rfl, E2⟩
  show Rn G 2000 0 0 (mLw nm) 1448 (LL i) [.inl x] SH h1 QL1
  refine rn_aload_n dL_law_1448 rfl rfl ?_
  refine rn_cV (M' := mX12_check) (n := 0) (av := []) (S := [.inl x]) (rc := 0) (rs := 0) (mc := 0) (ms := 0) (a := 94) (ci := 11) (r := (RX12, TX12, 38)) (d' := 1999) dL_law_1449 pa_X12_check (Nat.le_refl _) rfl (Nat.le_of_ble_eq_true rfl) ml_L_171 im_X12_check se_X12_check rfl rfl rfl (Ev.mono (E2) ?_)
  rintro v sh2 h2 ⟨rfl, -, y, rfl, hxy, I2⟩
  show Rn G 2000 0 0 (mLw nm) 1452 (LL i) [.inl y, .inl x] SH h2 QL1
  exact rn_icmp_eq (tgt := 1503) dL_law_1452 (by decide) (fun _ => K h2 I2) (fun z => absurd hxy z)
set_option maxHeartbeats 4000000 in
theorem lc_count (I : Inv h) (hi : i + 6 ≤ gn G) (hg : gn G ≤ 3072) (K : ∀ h', Inv h' → Rn G 2000 0 0 (mLw nm) 1503 (LL i) [] SH h' QL1) : Rn G 2000 0 0 (mLw nm) 1457 (LL i) [] SH h QL1 := by
  refine rn_aload_n dL_law_1457 rfl rfl ?_
  refine rn_aload_n dL_law_1458 rfl rfl ?_
  refine rn_iload_n dL_law_1459 rfl rfl ?_
  refine rn_iconst (v := nI 1) dL_law_1460 (by decide) ?_
  refine rn_iadd dL_law_1461 ?_
  refine rn_ialdS (k := i + 1) dL_law_1462 (ixs (by omega)).1 ((ixs (by omega)).2 _ (by omega)) ?_
  refine rn_cV (M' := mX11_count) (n := 1) (av := [.inl (gx G (i + 1))]) (S := []) (rc := 0) (rs := 0) (mc := 0) (ms := 0) (a := 0) (ci := 10) (r := (RX11, TX11, 12)) (d' := 1999) dL_law_1463 pa_X11_count (Nat.le_refl _) rfl (Nat.le_of_ble_eq_true rfl) ml_L_172 im_X11_count se_X11_count rfl rfl rfl (Ev.mono (step_count I (by omega)) ?_)
  rintro v sh1 h1 ⟨rfl, -, x, rfl, E2⟩
  show Rn G 2000 0 0 (mLw nm) 1466 (LL i) [.inl x] SH h1 QL1
  refine rn_aload_n dL_law_1466 rfl rfl ?_
  refine rn_aload_n dL_law_1467 rfl rfl ?_
  refine rn_iload_n dL_law_1468 rfl rfl ?_
  refine rn_iconst (v := nI 1) dL_law_1469 (by decide) ?_
  refine rn_iadd dL_law_1470 ?_
  refine rn_ialdS (k := i + 1) dL_law_1471 (ixs (by omega)).1 ((ixs (by omega)).2 _ (by omega)) ?_
  refine rn_cV (M' := mX12_count) (n := 1) (av := [.inl (gx G (i + 1))]) (S := [.inl x]) (rc := 0) (rs := 0) (mc := 0) (ms := 0) (a := 94) (ci := 11) (r := (RX12, TX12, 38)) (d' := 1999) dL_law_1472 pa_X12_count (Nat.le_refl _) rfl (Nat.le_of_ble_eq_true rfl) ml_L_175 im_X12_count se_X12_count rfl rfl rfl (Ev.mono (E2) ?_)
  rintro v sh2 h2 ⟨rfl, -, y, rfl, hxy, I2⟩
  show Rn G 2000 0 0 (mLw nm) 1475 (LL i) [.inl y, .inl x] SH h2 QL1
  exact rn_icmp_eq (tgt := 1503) dL_law_1475 (by decide) (fun _ => K h2 I2) (fun z => absurd hxy z)
set_option maxHeartbeats 4000000 in
theorem lc_told (I : Inv h) (hi : i + 6 ≤ gn G) (hg : gn G ≤ 3072) (K : ∀ h', Inv h' → Rn G 2000 0 0 (mLw nm) 1503 (LL i) [] SH h' QL1) : Rn G 2000 0 0 (mLw nm) 1480 (LL i) [] SH h QL1 := by
  refine rn_aload_n dL_law_1480 rfl rfl ?_
  refine rn_aload_n dL_law_1481 rfl rfl ?_
  refine rn_iload_n dL_law_1482 rfl rfl ?_
  refine rn_iconst (v := nI 1) dL_law_1483 (by decide) ?_
  refine rn_iadd dL_law_1484 ?_
  refine rn_ialdS (k := i + 1) dL_law_1485 (ixs (by omega)).1 ((ixs (by omega)).2 _ (by omega)) ?_
  refine rn_cV (M' := mX11_told) (n := 1) (av := [.inl (gx G (i + 1))]) (S := []) (rc := 0) (rs := 0) (mc := 0) (ms := 0) (a := 0) (ci := 10) (r := (RX11, TX11, 12)) (d' := 1999) dL_law_1486 pa_X11_told (Nat.le_refl _) rfl (Nat.le_of_ble_eq_true rfl) ml_L_176 im_X11_told se_X11_told rfl rfl rfl (Ev.mono (step_told I (by omega)) ?_)
  rintro v sh1 h1 ⟨rfl, -, x, rfl, E2⟩
  show Rn G 2000 0 0 (mLw nm) 1489 (LL i) [.inl x] SH h1 QL1
  refine rn_aload_n dL_law_1489 rfl rfl ?_
  refine rn_aload_n dL_law_1490 rfl rfl ?_
  refine rn_iload_n dL_law_1491 rfl rfl ?_
  refine rn_iconst (v := nI 1) dL_law_1492 (by decide) ?_
  refine rn_iadd dL_law_1493 ?_
  refine rn_ialdS (k := i + 1) dL_law_1494 (ixs (by omega)).1 ((ixs (by omega)).2 _ (by omega)) ?_
  refine rn_cV (M' := mX12_told) (n := 1) (av := [.inl (gx G (i + 1))]) (S := [.inl x]) (rc := 0) (rs := 0) (mc := 0) (ms := 0) (a := 94) (ci := 11) (r := (RX12, TX12, 38)) (d' := 1999) dL_law_1495 pa_X12_told (Nat.le_refl _) rfl (Nat.le_of_ble_eq_true rfl) ml_L_179 im_X12_told se_X12_told rfl rfl rfl (Ev.mono (E2) ?_)
  rintro v sh2 h2 ⟨rfl, -, y, rfl, hxy, I2⟩
  show Rn G 2000 0 0 (mLw nm) 1498 (LL i) [.inl y, .inl x] SH h2 QL1
  exact rn_icmp_eq (tgt := 1503) dL_law_1498 (by decide) (fun _ => K h2 I2) (fun z => absurd hxy z)
set_option maxHeartbeats 4000000 in
theorem law_case (I : Inv h) (hi : i + 6 ≤ gn G) (hg : gn G ≤ 3072) (K : ∀ h', Inv h' → Rn G 2000 0 0 (mLw nm) 1503 (LL i) [] SH h' QL1) : ∀ k, k < 39 → Rn G 2000 0 0 (mLw nm) (([204, 237, 270, 303, 336, 389, 422, 465, 498, 541, 574, 597, 620, 633, 656, 679, 722, 785, 808, 861, 894, 928, 941, 994, 1048, 1101, 1134, 1157, 1200, 1223, 1266, 1309, 1372, 1395, 1408, 1421, 1444, 1457, 1480] : List Nat).getD k 0) (LL i) [] SH h QL1
  | 0, _ => lc_party I hi hg K
  | 1, _ => lc_ofParty I hi hg K
  | 2, _ => lc_become I hi hg K
  | 3, _ => lc_as I hi hg K
  | 4, _ => lc_word I hi hg K
  | 5, _ => lc_ofWord I hi hg K
  | 6, _ => lc_set I hi hg K
  | 7, _ => lc_fetch I hi hg K
  | 8, _ => lc_pour I hi hg K
  | 9, _ => lc_object I hi hg K
  | 10, _ => lc_thumb I hi hg K
  | 11, _ => lc_say I hi hg K
  | 12, _ => lc_stop I hi hg K
  | 13, _ => lc_seconds I hi hg K
  | 14, _ => lc_loose I hi hg K
  | 15, _ => lc_then I hi hg K
  | 16, _ => lc_feed I hi hg K
  | 17, _ => lc_text I hi hg K
  | 18, _ => lc_law I hi hg K
  | 19, _ => lc_best I hi hg K
  | 20, _ => lc_share I hi hg K
  | 21, _ => lc_leaves I hi hg K
  | 22, _ => lc_game I hi hg K
  | 23, _ => lc_odds I hi hg K
  | 24, _ => lc_carried I hi hg K
  | 25, _ => lc_explained I hi hg K
  | 26, _ => lc_seed I hi hg K
  | 27, _ => lc_voice I hi hg K
  | 28, _ => lc_trace I hi hg K
  | 29, _ => lc_sheet I hi hg K
  | 30, _ => lc_put I hi hg K
  | 31, _ => lc_move I hi hg K
  | 32, _ => lc_judge I hi hg K
  | 33, _ => lc_image I hi hg K
  | 34, _ => lc_restore I hi hg K
  | 35, _ => lc_tell I hi hg K
  | 36, _ => lc_check I hi hg K
  | 37, _ => lc_count I hi hg K
  | 38, _ => lc_told I hi hg K
  | k + 39, hk => absurd hk (by omega)
set_option maxHeartbeats 4000000 in
theorem law_turn (hg : gn G ≤ 3072) (I : Inv h) (hi1 : i ≤ 10000) (K : i + 6 ≤ gn G → ∀ h', Inv h' → Rn G 2000 0 0 (mLw nm) 18 (LL (i + 6)) [] SH h' QL1) : Rn G 2000 0 0 (mLw nm) 18 (LL i) [] SH h QL1 := by
  refine rn_iload_n dL_law_18 rfl rfl ?_
  refine rn_aload_n dL_law_19 rfl rfl ?_
  refine rn_alenS dL_law_20 ?_
  refine rn_bipush (v := 6) dL_law_21 (by decide) ?_
  refine rn_isub dL_law_23 ?_
  have ei : (nI i).toInt = (i : Int) := ti_nI (by omega)
  have en : (Int32.ofNat (gn G)).toInt = (gn G : Int) := ti_nI (by omega)
  have es : (Int32.ofNat (gn G) - 6).toInt = (gn G : Int) - 6 := by
    rw [ti_sub (by rw [en]; simp only [Int32.reduceToInt]; omega) (by rw [en]; simp only [Int32.reduceToInt]; omega), en]
    rfl
  refine rn_icmp_gt (tgt := 1509) dL_law_24 (by decide) (fun z => ?_) (fun z => ?_)
  · refine rn_iconst (v := 1) dL_law_1509 (by decide) ?_
    exact rn_zret (ty := .boolean) dL_law_1510 rfl (by decide) rfl
  · rw [i_lt, es, ei] at z
    have hi : i + 6 ≤ gn G := by omega
    have KT : ∀ h', Inv h' → Rn G 2000 0 0 (mLw nm) 1503 (LL i) [] SH h' QL1 := fun h' I' => by
      refine rn_iinc (L' := LL (i + 6)) dL_law_1503 rfl (v := nI (i + 6)) (by show nI i + Int32.ofInt 6 = nI (i + 6); rw [i_eq, ti_add (by rw [ei]; show _ ≤ (i : Int) + 6; omega) (by rw [ei]; show (i : Int) + 6 < _; omega), ei, ti_nI (by omega)]; push_cast; rfl) (Nat.le_of_ble_eq_true rfl) rfl ?_
      refine rn_goto (tgt := 18) dL_law_1506 (by decide) ?_
      exact K hi h' I'
    refine rn_aload_n dL_law_27 rfl rfl ?_
    refine rn_iload_n dL_law_28 rfl rfl ?_
    refine rn_ialdS (k := i) dL_law_29 (cl_of ei) (in_of (by omega) (by omega)) ?_
    refine rn_bipush (v := 63) dL_law_30 (by decide) ?_
    refine rn_iand dL_law_32 ?_
    refine rn_tsw (td := 1503) [204, 237, 270, 303, 336, 389, 422, 465, 498, 541, 574, 597, 620, 633, 656, 679, 722, 785, 808, 861, 894, 928, 941, 994, 1048, 1101, 1134, 1157, 1200, 1223, 1266, 1309, 1372, 1395, 1408, 1421, 1444, 1457, 1480] dL_law_33 (by decide) (by decide +kernel) (by decide) (fun k hk _ => ?_) (fun _ => KT h I)
    exact law_case I hi hg KT k hk
theorem law_loop (hg : gn G ≤ 3072) : ∀ (m i : Nat) (h : Hp), Inv h → gn G < i + m → i ≤ 10000 → Rn G 2000 0 0 (mLw nm) 18 (LL i) [] SH h QL1
  | 0, i, h, I, hm, hi1 => by
    refine law_turn hg I hi1 (fun hi => ?_)
    exfalso
    omega
  | m + 1, i, h, I, hm, hi1 => by
    refine law_turn hg I hi1 (fun hi h' I' => ?_)
    exact law_loop hg m (i + 6) h' I' (by omega) (by omega)
end
