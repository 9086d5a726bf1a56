set_option maxRecDepth 20000 in
theorem lc_0 {i N : Nat} {xs : Nat → Int32} (hi : i + 6 ≤ N) (hN : N ≤ 3072) {σ : Sg} {τ : Sl} (hI : Inv σ) (K : ∀ σ τ, Inv σ → GoL N xs 88 2098 1628 (LL i) [] (mk σ τ)) : GoL N xs 88 2098 224 (LL i) [] (mk σ τ) := by
  obtain ⟨r, σ1, τ1, σ2, τ2, e1, e2, hI2⟩ := ca_feed hI τ (xs (i + 1))
  refine GoL.st (r_aload_n (i := 1) dL_law_224 rfl rfl rfl) ?_
  refine gl_arg (i := i) (j := 1) dL_law_225 dL_law_226 dL_law_227 dL_law_228 dL_law_229 rfl rfl rfl rfl rfl rfl rfl rfl (by omega) hN ?_
  refine GoL.st (r_callV (M := M_law) (as := [.int (xs (i + 1))]) (r := some (.int r)) (kc1 := 88) (ks1 := 2098) (st := []) (st1 := [.int r]) e1 mv_X9_feed q336 ⟨Nat.le_of_ble_eq_true rfl, Nat.le_of_ble_eq_true rfl⟩ (n0 := 0) (tag := 9) rfl (Nat.le_of_ble_eq_true rfl) (by decide) ⟨_, rfl, rfl⟩ ⟨Nat.le_of_ble_eq_true rfl, Nat.le_of_ble_eq_true rfl⟩ (Nat.le_of_ble_eq_true rfl) dL_law_230 rfl rfl rfl rfl rfl) ?_
  refine GoL.st (r_aload_n (i := 2) dL_law_233 rfl rfl rfl) ?_
  refine gl_arg (i := i) (j := 1) dL_law_234 dL_law_235 dL_law_236 dL_law_237 dL_law_238 rfl rfl rfl rfl rfl rfl rfl rfl (by omega) hN ?_
  refine GoL.st (r_callV (M := M_law) (as := [.int (xs (i + 1))]) (r := some (.int r)) (kc1 := 88) (ks1 := 2098) (st := [.int r]) (st1 := [.int r, .int r]) e2 mv_X10_feed q1075 ⟨Nat.le_of_ble_eq_true rfl, Nat.le_of_ble_eq_true rfl⟩ (n0 := 0) (tag := 10) rfl (Nat.le_of_ble_eq_true rfl) (by decide) ⟨_, rfl, rfl⟩ ⟨Nat.le_of_ble_eq_true rfl, Nat.le_of_ble_eq_true rfl⟩ (Nat.le_of_ble_eq_true rfl) dL_law_239 rfl rfl rfl rfl rfl) ?_
  exact GoL.br (r_icmp_eq (tgt := 1628) dL_law_242 rfl (by decide)) (fun _ => K σ2 τ2 hI2) (fun c => absurd rfl c)
set_option maxRecDepth 20000 in
theorem lc_1 {i N : Nat} {xs : Nat → Int32} (hi : i + 6 ≤ N) (hN : N ≤ 3072) {σ : Sg} {τ : Sl} (hI : Inv σ) (K : ∀ σ τ, Inv σ → GoL N xs 88 2098 1628 (LL i) [] (mk σ τ)) : GoL N xs 88 2098 247 (LL i) [] (mk σ τ) := by
  obtain ⟨r, σ1, τ1, σ2, τ2, e1, e2, hI2⟩ := ca_end hI τ (xs (i + 1))
  refine GoL.st (r_aload_n (i := 1) dL_law_247 rfl rfl rfl) ?_
  refine gl_arg (i := i) (j := 1) dL_law_248 dL_law_249 dL_law_250 dL_law_251 dL_law_252 rfl rfl rfl rfl rfl rfl rfl rfl (by omega) hN ?_
  refine GoL.st (r_callV (M := M_law) (as := [.int (xs (i + 1))]) (r := some (.int r)) (kc1 := 88) (ks1 := 2098) (st := []) (st1 := [.int r]) e1 mv_X9_end q344 ⟨Nat.le_of_ble_eq_true rfl, Nat.le_of_ble_eq_true rfl⟩ (n0 := 0) (tag := 9) rfl (Nat.le_of_ble_eq_true rfl) (by decide) ⟨_, rfl, rfl⟩ ⟨Nat.le_of_ble_eq_true rfl, Nat.le_of_ble_eq_true rfl⟩ (Nat.le_of_ble_eq_true rfl) dL_law_253 rfl rfl rfl rfl rfl) ?_
  refine GoL.st (r_aload_n (i := 2) dL_law_256 rfl rfl rfl) ?_
  refine gl_arg (i := i) (j := 1) dL_law_257 dL_law_258 dL_law_259 dL_law_260 dL_law_261 rfl rfl rfl rfl rfl rfl rfl rfl (by omega) hN ?_
  refine GoL.st (r_callV (M := M_law) (as := [.int (xs (i + 1))]) (r := some (.int r)) (kc1 := 88) (ks1 := 2098) (st := [.int r]) (st1 := [.int r, .int r]) e2 mv_X10_end q1083 ⟨Nat.le_of_ble_eq_true rfl, Nat.le_of_ble_eq_true rfl⟩ (n0 := 0) (tag := 10) rfl (Nat.le_of_ble_eq_true rfl) (by decide) ⟨_, rfl, rfl⟩ ⟨Nat.le_of_ble_eq_true rfl, Nat.le_of_ble_eq_true rfl⟩ (Nat.le_of_ble_eq_true rfl) dL_law_262 rfl rfl rfl rfl rfl) ?_
  exact GoL.br (r_icmp_eq (tgt := 1628) dL_law_265 rfl (by decide)) (fun _ => K σ2 τ2 hI2) (fun c => absurd rfl c)
set_option maxRecDepth 20000 in
theorem lc_2 {i N : Nat} {xs : Nat → Int32} (hi : i + 6 ≤ N) (hN : N ≤ 3072) {σ : Sg} {τ : Sl} (hI : Inv σ) (K : ∀ σ τ, Inv σ → GoL N xs 88 2098 1628 (LL i) [] (mk σ τ)) : GoL N xs 88 2098 270 (LL i) [] (mk σ τ) := by
  obtain ⟨r, σ1, τ1, σ2, τ2, e1, e2, hI2⟩ := ca_text hI τ
  refine GoL.st (r_aload_n (i := 1) dL_law_270 rfl rfl rfl) ?_
  refine GoL.st (r_callV (M := M_law) (as := []) (r := some (.int r)) (kc1 := 88) (ks1 := 2098) (st := []) (st1 := [.int r]) e1 mv_X9_text q348 ⟨Nat.le_of_ble_eq_true rfl, Nat.le_of_ble_eq_true rfl⟩ (n0 := 0) (tag := 9) rfl (Nat.le_of_ble_eq_true rfl) (by decide) ⟨_, rfl, rfl⟩ ⟨Nat.le_of_ble_eq_true rfl, Nat.le_of_ble_eq_true rfl⟩ (Nat.le_of_ble_eq_true rfl) dL_law_271 rfl rfl rfl rfl rfl) ?_
  refine GoL.st (r_aload_n (i := 2) dL_law_274 rfl rfl rfl) ?_
  refine GoL.st (r_callV (M := M_law) (as := []) (r := some (.int r)) (kc1 := 88) (ks1 := 2098) (st := [.int r]) (st1 := [.int r, .int r]) e2 mv_X10_text q1087 ⟨Nat.le_of_ble_eq_true rfl, Nat.le_of_ble_eq_true rfl⟩ (n0 := 0) (tag := 10) rfl (Nat.le_of_ble_eq_true rfl) (by decide) ⟨_, rfl, rfl⟩ ⟨Nat.le_of_ble_eq_true rfl, Nat.le_of_ble_eq_true rfl⟩ (Nat.le_of_ble_eq_true rfl) dL_law_275 rfl rfl rfl rfl rfl) ?_
  exact GoL.br (r_icmp_eq (tgt := 1628) dL_law_278 rfl (by decide)) (fun _ => K σ2 τ2 hI2) (fun c => absurd rfl c)
set_option maxRecDepth 20000 in
theorem lc_3 {i N : Nat} {xs : Nat → Int32} (hi : i + 6 ≤ N) (hN : N ≤ 3072) {σ : Sg} {τ : Sl} (hI : Inv σ) (K : ∀ σ τ, Inv σ → GoL N xs 88 2098 1628 (LL i) [] (mk σ τ)) : GoL N xs 88 2098 283 (LL i) [] (mk σ τ) := by
  obtain ⟨r, σ1, τ1, σ2, τ2, e1, e2, hI2⟩ := ca_fault hI τ
  refine GoL.st (r_aload_n (i := 1) dL_law_283 rfl rfl rfl) ?_
  refine GoL.st (r_callV (M := M_law) (as := []) (r := some (.int r)) (kc1 := 88) (ks1 := 2098) (st := []) (st1 := [.int r]) e1 mv_X9_fault q518 ⟨Nat.le_of_ble_eq_true rfl, Nat.le_of_ble_eq_true rfl⟩ (n0 := 0) (tag := 9) rfl (Nat.le_of_ble_eq_true rfl) (by decide) ⟨_, rfl, rfl⟩ ⟨Nat.le_of_ble_eq_true rfl, Nat.le_of_ble_eq_true rfl⟩ (Nat.le_of_ble_eq_true rfl) dL_law_284 rfl rfl rfl rfl rfl) ?_
  refine GoL.st (r_aload_n (i := 2) dL_law_287 rfl rfl rfl) ?_
  refine GoL.st (r_callV (M := M_law) (as := []) (r := some (.int r)) (kc1 := 88) (ks1 := 2098) (st := [.int r]) (st1 := [.int r, .int r]) e2 mv_X10_fault q1136 ⟨Nat.le_of_ble_eq_true rfl, Nat.le_of_ble_eq_true rfl⟩ (n0 := 0) (tag := 10) rfl (Nat.le_of_ble_eq_true rfl) (by decide) ⟨_, rfl, rfl⟩ ⟨Nat.le_of_ble_eq_true rfl, Nat.le_of_ble_eq_true rfl⟩ (Nat.le_of_ble_eq_true rfl) dL_law_288 rfl rfl rfl rfl rfl) ?_
  exact GoL.br (r_icmp_eq (tgt := 1628) dL_law_291 rfl (by decide)) (fun _ => K σ2 τ2 hI2) (fun c => absurd rfl c)
set_option maxRecDepth 20000 in
theorem lc_4 {i N : Nat} {xs : Nat → Int32} (hi : i + 6 ≤ N) (hN : N ≤ 3072) {σ : Sg} {τ : Sl} (hI : Inv σ) (K : ∀ σ τ, Inv σ → GoL N xs 88 2098 1628 (LL i) [] (mk σ τ)) : GoL N xs 88 2098 296 (LL i) [] (mk σ τ) := by
  obtain ⟨r, σ1, τ1, σ2, τ2, e1, e2, hI2⟩ := ca_rule hI τ (xs (i + 1))
  refine GoL.st (r_aload_n (i := 1) dL_law_296 rfl rfl rfl) ?_
  refine gl_arg (i := i) (j := 1) dL_law_297 dL_law_298 dL_law_299 dL_law_300 dL_law_301 rfl rfl rfl rfl rfl rfl rfl rfl (by omega) hN ?_
  refine GoL.st (r_callV (M := M_law) (as := [.int (xs (i + 1))]) (r := some (.int r)) (kc1 := 88) (ks1 := 2098) (st := []) (st1 := [.int r]) e1 mv_X9_rule q522 ⟨Nat.le_of_ble_eq_true rfl, Nat.le_of_ble_eq_true rfl⟩ (n0 := 0) (tag := 9) rfl (Nat.le_of_ble_eq_true rfl) (by decide) ⟨_, rfl, rfl⟩ ⟨Nat.le_of_ble_eq_true rfl, Nat.le_of_ble_eq_true rfl⟩ (Nat.le_of_ble_eq_true rfl) dL_law_302 rfl rfl rfl rfl rfl) ?_
  refine GoL.st (r_aload_n (i := 2) dL_law_305 rfl rfl rfl) ?_
  refine gl_arg (i := i) (j := 1) dL_law_306 dL_law_307 dL_law_308 dL_law_309 dL_law_310 rfl rfl rfl rfl rfl rfl rfl rfl (by omega) hN ?_
  refine GoL.st (r_callV (M := M_law) (as := [.int (xs (i + 1))]) (r := some (.int r)) (kc1 := 88) (ks1 := 2098) (st := [.int r]) (st1 := [.int r, .int r]) e2 mv_X10_rule q1140 ⟨Nat.le_of_ble_eq_true rfl, Nat.le_of_ble_eq_true rfl⟩ (n0 := 0) (tag := 10) rfl (Nat.le_of_ble_eq_true rfl) (by decide) ⟨_, rfl, rfl⟩ ⟨Nat.le_of_ble_eq_true rfl, Nat.le_of_ble_eq_true rfl⟩ (Nat.le_of_ble_eq_true rfl) dL_law_311 rfl rfl rfl rfl rfl) ?_
  exact GoL.br (r_icmp_eq (tgt := 1628) dL_law_314 rfl (by decide)) (fun _ => K σ2 τ2 hI2) (fun c => absurd rfl c)
set_option maxRecDepth 20000 in
theorem lc_5 {i N : Nat} {xs : Nat → Int32} (hi : i + 6 ≤ N) (hN : N ≤ 3072) {σ : Sg} {τ : Sl} (hI : Inv σ) (K : ∀ σ τ, Inv σ → GoL N xs 88 2098 1628 (LL i) [] (mk σ τ)) : GoL N xs 88 2098 319 (LL i) [] (mk σ τ) := by
  obtain ⟨r, σ1, τ1, σ2, τ2, e1, e2, hI2⟩ := ca_peg hI τ (xs (i + 1)) (xs (i + 2))
  refine GoL.st (r_aload_n (i := 1) dL_law_319 rfl rfl rfl) ?_
  refine gl_arg (i := i) (j := 1) dL_law_320 dL_law_321 dL_law_322 dL_law_323 dL_law_324 rfl rfl rfl rfl rfl rfl rfl rfl (by omega) hN ?_
  refine gl_arg (i := i) (j := 2) dL_law_325 dL_law_326 dL_law_327 dL_law_328 dL_law_329 rfl rfl rfl rfl rfl rfl rfl rfl (by omega) hN ?_
  refine GoL.st (r_callV (M := M_law) (as := [.int (xs (i + 1)), .int (xs (i + 2))]) (r := some (.int r)) (kc1 := 88) (ks1 := 2098) (st := []) (st1 := [.int r]) e1 mv_X9_peg q573 ⟨Nat.le_of_ble_eq_true rfl, Nat.le_of_ble_eq_true rfl⟩ (n0 := 0) (tag := 9) rfl (Nat.le_of_ble_eq_true rfl) (by decide) ⟨_, rfl, rfl⟩ ⟨Nat.le_of_ble_eq_true rfl, Nat.le_of_ble_eq_true rfl⟩ (Nat.le_of_ble_eq_true rfl) dL_law_330 rfl rfl rfl rfl rfl) ?_
  refine GoL.st (r_aload_n (i := 2) dL_law_333 rfl rfl rfl) ?_
  refine gl_arg (i := i) (j := 1) dL_law_334 dL_law_335 dL_law_336 dL_law_337 dL_law_338 rfl rfl rfl rfl rfl rfl rfl rfl (by omega) hN ?_
  refine gl_arg (i := i) (j := 2) dL_law_339 dL_law_340 dL_law_341 dL_law_342 dL_law_343 rfl rfl rfl rfl rfl rfl rfl rfl (by omega) hN ?_
  refine GoL.st (r_callV (M := M_law) (as := [.int (xs (i + 1)), .int (xs (i + 2))]) (r := some (.int r)) (kc1 := 88) (ks1 := 2098) (st := [.int r]) (st1 := [.int r, .int r]) e2 mv_X10_peg q1170 ⟨Nat.le_of_ble_eq_true rfl, Nat.le_of_ble_eq_true rfl⟩ (n0 := 0) (tag := 10) rfl (Nat.le_of_ble_eq_true rfl) (by decide) ⟨_, rfl, rfl⟩ ⟨Nat.le_of_ble_eq_true rfl, Nat.le_of_ble_eq_true rfl⟩ (Nat.le_of_ble_eq_true rfl) dL_law_344 rfl rfl rfl rfl rfl) ?_
  exact GoL.br (r_icmp_eq (tgt := 1628) dL_law_347 rfl (by decide)) (fun _ => K σ2 τ2 hI2) (fun c => absurd rfl c)
set_option maxRecDepth 20000 in
theorem lc_6 {i N : Nat} {xs : Nat → Int32} (hi : i + 6 ≤ N) (hN : N ≤ 3072) {σ : Sg} {τ : Sl} (hI : Inv σ) (K : ∀ σ τ, Inv σ → GoL N xs 88 2098 1628 (LL i) [] (mk σ τ)) : GoL N xs 88 2098 352 (LL i) [] (mk σ τ) := by
  obtain ⟨r, σ1, τ1, σ2, τ2, e1, e2, hI2⟩ := ca_slug hI τ (xs (i + 1))
  refine GoL.st (r_aload_n (i := 1) dL_law_352 rfl rfl rfl) ?_
  refine gl_arg (i := i) (j := 1) dL_law_353 dL_law_354 dL_law_355 dL_law_356 dL_law_357 rfl rfl rfl rfl rfl rfl rfl rfl (by omega) hN ?_
  refine GoL.st (r_callV (M := M_law) (as := [.int (xs (i + 1))]) (r := some (.int r)) (kc1 := 88) (ks1 := 2098) (st := []) (st1 := [.int r]) e1 mv_X9_slug q582 ⟨Nat.le_of_ble_eq_true rfl, Nat.le_of_ble_eq_true rfl⟩ (n0 := 0) (tag := 9) rfl (Nat.le_of_ble_eq_true rfl) (by decide) ⟨_, rfl, rfl⟩ ⟨Nat.le_of_ble_eq_true rfl, Nat.le_of_ble_eq_true rfl⟩ (Nat.le_of_ble_eq_true rfl) dL_law_358 rfl rfl rfl rfl rfl) ?_
  refine GoL.st (r_aload_n (i := 2) dL_law_361 rfl rfl rfl) ?_
  refine gl_arg (i := i) (j := 1) dL_law_362 dL_law_363 dL_law_364 dL_law_365 dL_law_366 rfl rfl rfl rfl rfl rfl rfl rfl (by omega) hN ?_
  refine GoL.st (r_callV (M := M_law) (as := [.int (xs (i + 1))]) (r := some (.int r)) (kc1 := 88) (ks1 := 2098) (st := [.int r]) (st1 := [.int r, .int r]) e2 mv_X10_slug q1179 ⟨Nat.le_of_ble_eq_true rfl, Nat.le_of_ble_eq_true rfl⟩ (n0 := 0) (tag := 10) rfl (Nat.le_of_ble_eq_true rfl) (by decide) ⟨_, rfl, rfl⟩ ⟨Nat.le_of_ble_eq_true rfl, Nat.le_of_ble_eq_true rfl⟩ (Nat.le_of_ble_eq_true rfl) dL_law_367 rfl rfl rfl rfl rfl) ?_
  exact GoL.br (r_icmp_eq (tgt := 1628) dL_law_370 rfl (by decide)) (fun _ => K σ2 τ2 hI2) (fun c => absurd rfl c)
set_option maxRecDepth 20000 in
theorem lc_7 {i N : Nat} {xs : Nat → Int32} (hi : i + 6 ≤ N) (hN : N ≤ 3072) {σ : Sg} {τ : Sl} (hI : Inv σ) (K : ∀ σ τ, Inv σ → GoL N xs 88 2098 1628 (LL i) [] (mk σ τ)) : GoL N xs 88 2098 375 (LL i) [] (mk σ τ) := by
  obtain ⟨r, σ1, τ1, σ2, τ2, e1, e2, hI2⟩ := ca_hedgehog hI τ (xs (i + 1)) (xs (i + 2))
  refine GoL.st (r_aload_n (i := 1) dL_law_375 rfl rfl rfl) ?_
  refine gl_arg (i := i) (j := 1) dL_law_376 dL_law_377 dL_law_378 dL_law_379 dL_law_380 rfl rfl rfl rfl rfl rfl rfl rfl (by omega) hN ?_
  refine gl_arg (i := i) (j := 2) dL_law_381 dL_law_382 dL_law_383 dL_law_384 dL_law_385 rfl rfl rfl rfl rfl rfl rfl rfl (by omega) hN ?_
  refine GoL.st (r_callV (M := M_law) (as := [.int (xs (i + 1)), .int (xs (i + 2))]) (r := some (.int r)) (kc1 := 88) (ks1 := 2098) (st := []) (st1 := [.int r]) e1 mv_X9_hedgehog q590 ⟨Nat.le_of_ble_eq_true rfl, Nat.le_of_ble_eq_true rfl⟩ (n0 := 0) (tag := 9) rfl (Nat.le_of_ble_eq_true rfl) (by decide) ⟨_, rfl, rfl⟩ ⟨Nat.le_of_ble_eq_true rfl, Nat.le_of_ble_eq_true rfl⟩ (Nat.le_of_ble_eq_true rfl) dL_law_386 rfl rfl rfl rfl rfl) ?_
  refine GoL.st (r_aload_n (i := 2) dL_law_389 rfl rfl rfl) ?_
  refine gl_arg (i := i) (j := 1) dL_law_390 dL_law_391 dL_law_392 dL_law_393 dL_law_394 rfl rfl rfl rfl rfl rfl rfl rfl (by omega) hN ?_
  refine gl_arg (i := i) (j := 2) dL_law_395 dL_law_396 dL_law_397 dL_law_398 dL_law_399 rfl rfl rfl rfl rfl rfl rfl rfl (by omega) hN ?_
  refine GoL.st (r_callV (M := M_law) (as := [.int (xs (i + 1)), .int (xs (i + 2))]) (r := some (.int r)) (kc1 := 88) (ks1 := 2098) (st := [.int r]) (st1 := [.int r, .int r]) e2 mv_X10_hedgehog q1183 ⟨Nat.le_of_ble_eq_true rfl, Nat.le_of_ble_eq_true rfl⟩ (n0 := 0) (tag := 10) rfl (Nat.le_of_ble_eq_true rfl) (by decide) ⟨_, rfl, rfl⟩ ⟨Nat.le_of_ble_eq_true rfl, Nat.le_of_ble_eq_true rfl⟩ (Nat.le_of_ble_eq_true rfl) dL_law_400 rfl rfl rfl rfl rfl) ?_
  exact GoL.br (r_icmp_eq (tgt := 1628) dL_law_403 rfl (by decide)) (fun _ => K σ2 τ2 hI2) (fun c => absurd rfl c)
set_option maxRecDepth 20000 in
theorem lc_8 {i N : Nat} {xs : Nat → Int32} (hi : i + 6 ≤ N) (hN : N ≤ 3072) {σ : Sg} {τ : Sl} (hI : Inv σ) (K : ∀ σ τ, Inv σ → GoL N xs 88 2098 1628 (LL i) [] (mk σ τ)) : GoL N xs 88 2098 408 (LL i) [] (mk σ τ) := by
  obtain ⟨r, σ1, τ1, σ2, τ2, e1, e2, hI2⟩ := ca_suit hI τ (xs (i + 1)) (xs (i + 2))
  refine GoL.st (r_aload_n (i := 1) dL_law_408 rfl rfl rfl) ?_
  refine gl_arg (i := i) (j := 1) dL_law_409 dL_law_410 dL_law_411 dL_law_412 dL_law_413 rfl rfl rfl rfl rfl rfl rfl rfl (by omega) hN ?_
  refine gl_arg (i := i) (j := 2) dL_law_414 dL_law_415 dL_law_416 dL_law_417 dL_law_418 rfl rfl rfl rfl rfl rfl rfl rfl (by omega) hN ?_
  refine GoL.st (r_callV (M := M_law) (as := [.int (xs (i + 1)), .int (xs (i + 2))]) (r := some (.int r)) (kc1 := 88) (ks1 := 2098) (st := []) (st1 := [.int r]) e1 mv_X9_suit q604 ⟨Nat.le_of_ble_eq_true rfl, Nat.le_of_ble_eq_true rfl⟩ (n0 := 0) (tag := 9) rfl (Nat.le_of_ble_eq_true rfl) (by decide) ⟨_, rfl, rfl⟩ ⟨Nat.le_of_ble_eq_true rfl, Nat.le_of_ble_eq_true rfl⟩ (Nat.le_of_ble_eq_true rfl) dL_law_419 rfl rfl rfl rfl rfl) ?_
  refine GoL.st (r_aload_n (i := 2) dL_law_422 rfl rfl rfl) ?_
  refine gl_arg (i := i) (j := 1) dL_law_423 dL_law_424 dL_law_425 dL_law_426 dL_law_427 rfl rfl rfl rfl rfl rfl rfl rfl (by omega) hN ?_
  refine gl_arg (i := i) (j := 2) dL_law_428 dL_law_429 dL_law_430 dL_law_431 dL_law_432 rfl rfl rfl rfl rfl rfl rfl rfl (by omega) hN ?_
  refine GoL.st (r_callV (M := M_law) (as := [.int (xs (i + 1)), .int (xs (i + 2))]) (r := some (.int r)) (kc1 := 88) (ks1 := 2098) (st := [.int r]) (st1 := [.int r, .int r]) e2 mv_X10_suit q1192 ⟨Nat.le_of_ble_eq_true rfl, Nat.le_of_ble_eq_true rfl⟩ (n0 := 0) (tag := 10) rfl (Nat.le_of_ble_eq_true rfl) (by decide) ⟨_, rfl, rfl⟩ ⟨Nat.le_of_ble_eq_true rfl, Nat.le_of_ble_eq_true rfl⟩ (Nat.le_of_ble_eq_true rfl) dL_law_433 rfl rfl rfl rfl rfl) ?_
  exact GoL.br (r_icmp_eq (tgt := 1628) dL_law_436 rfl (by decide)) (fun _ => K σ2 τ2 hI2) (fun c => absurd rfl c)
set_option maxRecDepth 20000 in
theorem lc_9 {i N : Nat} {xs : Nat → Int32} (hi : i + 6 ≤ N) (hN : N ≤ 3072) {σ : Sg} {τ : Sl} (hI : Inv σ) (K : ∀ σ τ, Inv σ → GoL N xs 88 2098 1628 (LL i) [] (mk σ τ)) : GoL N xs 88 2098 441 (LL i) [] (mk σ τ) := by
  obtain ⟨r, σ1, τ1, σ2, τ2, e1, e2, hI2⟩ := ca_shift hI τ (xs (i + 1)) (xs (i + 2))
  refine GoL.st (r_aload_n (i := 1) dL_law_441 rfl rfl rfl) ?_
  refine gl_arg (i := i) (j := 1) dL_law_442 dL_law_443 dL_law_444 dL_law_445 dL_law_446 rfl rfl rfl rfl rfl rfl rfl rfl (by omega) hN ?_
  refine gl_arg (i := i) (j := 2) dL_law_447 dL_law_448 dL_law_449 dL_law_450 dL_law_451 rfl rfl rfl rfl rfl rfl rfl rfl (by omega) hN ?_
  refine GoL.st (r_callV (M := M_law) (as := [.int (xs (i + 1)), .int (xs (i + 2))]) (r := some (.int r)) (kc1 := 88) (ks1 := 2098) (st := []) (st1 := [.int r]) e1 mv_X9_shift q610 ⟨Nat.le_of_ble_eq_true rfl, Nat.le_of_ble_eq_true rfl⟩ (n0 := 0) (tag := 9) rfl (Nat.le_of_ble_eq_true rfl) (by decide) ⟨_, rfl, rfl⟩ ⟨Nat.le_of_ble_eq_true rfl, Nat.le_of_ble_eq_true rfl⟩ (Nat.le_of_ble_eq_true rfl) dL_law_452 rfl rfl rfl rfl rfl) ?_
  refine GoL.st (r_aload_n (i := 2) dL_law_455 rfl rfl rfl) ?_
  refine gl_arg (i := i) (j := 1) dL_law_456 dL_law_457 dL_law_458 dL_law_459 dL_law_460 rfl rfl rfl rfl rfl rfl rfl rfl (by omega) hN ?_
  refine gl_arg (i := i) (j := 2) dL_law_461 dL_law_462 dL_law_463 dL_law_464 dL_law_465 rfl rfl rfl rfl rfl rfl rfl rfl (by omega) hN ?_
  refine GoL.st (r_callV (M := M_law) (as := [.int (xs (i + 1)), .int (xs (i + 2))]) (r := some (.int r)) (kc1 := 88) (ks1 := 2098) (st := [.int r]) (st1 := [.int r, .int r]) e2 mv_X10_shift q1200 ⟨Nat.le_of_ble_eq_true rfl, Nat.le_of_ble_eq_true rfl⟩ (n0 := 0) (tag := 10) rfl (Nat.le_of_ble_eq_true rfl) (by decide) ⟨_, rfl, rfl⟩ ⟨Nat.le_of_ble_eq_true rfl, Nat.le_of_ble_eq_true rfl⟩ (Nat.le_of_ble_eq_true rfl) dL_law_466 rfl rfl rfl rfl rfl) ?_
  exact GoL.br (r_icmp_eq (tgt := 1628) dL_law_469 rfl (by decide)) (fun _ => K σ2 τ2 hI2) (fun c => absurd rfl c)
set_option maxRecDepth 20000 in
theorem lc_10 {i N : Nat} {xs : Nat → Int32} (hi : i + 6 ≤ N) (hN : N ≤ 3072) {σ : Sg} {τ : Sl} (hI : Inv σ) (K : ∀ σ τ, Inv σ → GoL N xs 88 2098 1628 (LL i) [] (mk σ τ)) : GoL N xs 88 2098 474 (LL i) [] (mk σ τ) := by
  obtain ⟨r, σ1, τ1, σ2, τ2, e1, e2, hI2⟩ := ca_rag hI τ (xs (i + 1)) (xs (i + 2))
  refine GoL.st (r_aload_n (i := 1) dL_law_474 rfl rfl rfl) ?_
  refine gl_arg (i := i) (j := 1) dL_law_475 dL_law_476 dL_law_477 dL_law_478 dL_law_479 rfl rfl rfl rfl rfl rfl rfl rfl (by omega) hN ?_
  refine gl_arg (i := i) (j := 2) dL_law_480 dL_law_481 dL_law_482 dL_law_483 dL_law_484 rfl rfl rfl rfl rfl rfl rfl rfl (by omega) hN ?_
  refine GoL.st (r_callV (M := M_law) (as := [.int (xs (i + 1)), .int (xs (i + 2))]) (r := some (.int r)) (kc1 := 88) (ks1 := 2098) (st := []) (st1 := [.int r]) e1 mv_X9_rag q621 ⟨Nat.le_of_ble_eq_true rfl, Nat.le_of_ble_eq_true rfl⟩ (n0 := 0) (tag := 9) rfl (Nat.le_of_ble_eq_true rfl) (by decide) ⟨_, rfl, rfl⟩ ⟨Nat.le_of_ble_eq_true rfl, Nat.le_of_ble_eq_true rfl⟩ (Nat.le_of_ble_eq_true rfl) dL_law_485 rfl rfl rfl rfl rfl) ?_
  refine GoL.st (r_aload_n (i := 2) dL_law_488 rfl rfl rfl) ?_
  refine gl_arg (i := i) (j := 1) dL_law_489 dL_law_490 dL_law_491 dL_law_492 dL_law_493 rfl rfl rfl rfl rfl rfl rfl rfl (by omega) hN ?_
  refine gl_arg (i := i) (j := 2) dL_law_494 dL_law_495 dL_law_496 dL_law_497 dL_law_498 rfl rfl rfl rfl rfl rfl rfl rfl (by omega) hN ?_
  refine GoL.st (r_callV (M := M_law) (as := [.int (xs (i + 1)), .int (xs (i + 2))]) (r := some (.int r)) (kc1 := 88) (ks1 := 2098) (st := [.int r]) (st1 := [.int r, .int r]) e2 mv_X10_rag q1215 ⟨Nat.le_of_ble_eq_true rfl, Nat.le_of_ble_eq_true rfl⟩ (n0 := 0) (tag := 10) rfl (Nat.le_of_ble_eq_true rfl) (by decide) ⟨_, rfl, rfl⟩ ⟨Nat.le_of_ble_eq_true rfl, Nat.le_of_ble_eq_true rfl⟩ (Nat.le_of_ble_eq_true rfl) dL_law_499 rfl rfl rfl rfl rfl) ?_
  exact GoL.br (r_icmp_eq (tgt := 1628) dL_law_502 rfl (by decide)) (fun _ => K σ2 τ2 hI2) (fun c => absurd rfl c)
set_option maxRecDepth 20000 in
theorem lc_11 {i N : Nat} {xs : Nat → Int32} (hi : i + 6 ≤ N) (hN : N ≤ 3072) {σ : Sg} {τ : Sl} (hI : Inv σ) (K : ∀ σ τ, Inv σ → GoL N xs 88 2098 1628 (LL i) [] (mk σ τ)) : GoL N xs 88 2098 507 (LL i) [] (mk σ τ) := by
  obtain ⟨r, σ1, τ1, σ2, τ2, e1, e2, hI2⟩ := ca_alter hI τ (xs (i + 1)) (xs (i + 2)) (xs (i + 3))
  refine GoL.st (r_aload_n (i := 1) dL_law_507 rfl rfl rfl) ?_
  refine gl_arg (i := i) (j := 1) dL_law_508 dL_law_509 dL_law_510 dL_law_511 dL_law_512 rfl rfl rfl rfl rfl rfl rfl rfl (by omega) hN ?_
  refine gl_arg (i := i) (j := 2) dL_law_513 dL_law_514 dL_law_515 dL_law_516 dL_law_517 rfl rfl rfl rfl rfl rfl rfl rfl (by omega) hN ?_
  refine gl_arg (i := i) (j := 3) dL_law_518 dL_law_519 dL_law_520 dL_law_521 dL_law_522 rfl rfl rfl rfl rfl rfl rfl rfl (by omega) hN ?_
  refine GoL.st (r_callV (M := M_law) (as := [.int (xs (i + 1)), .int (xs (i + 2)), .int (xs (i + 3))]) (r := some (.int r)) (kc1 := 88) (ks1 := 2098) (st := []) (st1 := [.int r]) e1 mv_X9_alter q626 ⟨Nat.le_of_ble_eq_true rfl, Nat.le_of_ble_eq_true rfl⟩ (n0 := 0) (tag := 9) rfl (Nat.le_of_ble_eq_true rfl) (by decide) ⟨_, rfl, rfl⟩ ⟨Nat.le_of_ble_eq_true rfl, Nat.le_of_ble_eq_true rfl⟩ (Nat.le_of_ble_eq_true rfl) dL_law_523 rfl rfl rfl rfl rfl) ?_
  refine GoL.st (r_aload_n (i := 2) dL_law_526 rfl rfl rfl) ?_
  refine gl_arg (i := i) (j := 1) dL_law_527 dL_law_528 dL_law_529 dL_law_530 dL_law_531 rfl rfl rfl rfl rfl rfl rfl rfl (by omega) hN ?_
  refine gl_arg (i := i) (j := 2) dL_law_532 dL_law_533 dL_law_534 dL_law_535 dL_law_536 rfl rfl rfl rfl rfl rfl rfl rfl (by omega) hN ?_
  refine gl_arg (i := i) (j := 3) dL_law_537 dL_law_538 dL_law_539 dL_law_540 dL_law_541 rfl rfl rfl rfl rfl rfl rfl rfl (by omega) hN ?_
  refine GoL.st (r_callV (M := M_law) (as := [.int (xs (i + 1)), .int (xs (i + 2)), .int (xs (i + 3))]) (r := some (.int r)) (kc1 := 88) (ks1 := 2098) (st := [.int r]) (st1 := [.int r, .int r]) e2 mv_X10_alter q1222 ⟨Nat.le_of_ble_eq_true rfl, Nat.le_of_ble_eq_true rfl⟩ (n0 := 0) (tag := 10) rfl (Nat.le_of_ble_eq_true rfl) (by decide) ⟨_, rfl, rfl⟩ ⟨Nat.le_of_ble_eq_true rfl, Nat.le_of_ble_eq_true rfl⟩ (Nat.le_of_ble_eq_true rfl) dL_law_542 rfl rfl rfl rfl rfl) ?_
  exact GoL.br (r_icmp_eq (tgt := 1628) dL_law_545 rfl (by decide)) (fun _ => K σ2 τ2 hI2) (fun c => absurd rfl c)
set_option maxRecDepth 20000 in
theorem lc_12 {i N : Nat} {xs : Nat → Int32} (hi : i + 6 ≤ N) (hN : N ≤ 3072) {σ : Sg} {τ : Sl} (hI : Inv σ) (K : ∀ σ τ, Inv σ → GoL N xs 88 2098 1628 (LL i) [] (mk σ τ)) : GoL N xs 88 2098 550 (LL i) [] (mk σ τ) := by
  obtain ⟨r, σ1, τ1, σ2, τ2, e1, e2, hI2⟩ := ca_drive hI τ (xs (i + 1)) (xs (i + 2))
  refine GoL.st (r_aload_n (i := 1) dL_law_550 rfl rfl rfl) ?_
  refine gl_arg (i := i) (j := 1) dL_law_551 dL_law_552 dL_law_553 dL_law_554 dL_law_555 rfl rfl rfl rfl rfl rfl rfl rfl (by omega) hN ?_
  refine gl_arg (i := i) (j := 2) dL_law_556 dL_law_557 dL_law_558 dL_law_559 dL_law_560 rfl rfl rfl rfl rfl rfl rfl rfl (by omega) hN ?_
  refine GoL.st (r_callV (M := M_law) (as := [.int (xs (i + 1)), .int (xs (i + 2))]) (r := some (.int r)) (kc1 := 88) (ks1 := 2098) (st := []) (st1 := [.int r]) e1 mv_X9_drive q630 ⟨Nat.le_of_ble_eq_true rfl, Nat.le_of_ble_eq_true rfl⟩ (n0 := 0) (tag := 9) rfl (Nat.le_of_ble_eq_true rfl) (by decide) ⟨_, rfl, rfl⟩ ⟨Nat.le_of_ble_eq_true rfl, Nat.le_of_ble_eq_true rfl⟩ (Nat.le_of_ble_eq_true rfl) dL_law_561 rfl rfl rfl rfl rfl) ?_
  refine GoL.st (r_aload_n (i := 2) dL_law_564 rfl rfl rfl) ?_
  refine gl_arg (i := i) (j := 1) dL_law_565 dL_law_566 dL_law_567 dL_law_568 dL_law_569 rfl rfl rfl rfl rfl rfl rfl rfl (by omega) hN ?_
  refine gl_arg (i := i) (j := 2) dL_law_570 dL_law_571 dL_law_572 dL_law_573 dL_law_574 rfl rfl rfl rfl rfl rfl rfl rfl (by omega) hN ?_
  refine GoL.st (r_callV (M := M_law) (as := [.int (xs (i + 1)), .int (xs (i + 2))]) (r := some (.int r)) (kc1 := 88) (ks1 := 2098) (st := [.int r]) (st1 := [.int r, .int r]) e2 mv_X10_drive q1227 ⟨Nat.le_of_ble_eq_true rfl, Nat.le_of_ble_eq_true rfl⟩ (n0 := 0) (tag := 10) rfl (Nat.le_of_ble_eq_true rfl) (by decide) ⟨_, rfl, rfl⟩ ⟨Nat.le_of_ble_eq_true rfl, Nat.le_of_ble_eq_true rfl⟩ (Nat.le_of_ble_eq_true rfl) dL_law_575 rfl rfl rfl rfl rfl) ?_
  exact GoL.br (r_icmp_eq (tgt := 1628) dL_law_578 rfl (by decide)) (fun _ => K σ2 τ2 hI2) (fun c => absurd rfl c)
set_option maxRecDepth 20000 in
theorem lc_13 {i N : Nat} {xs : Nat → Int32} (hi : i + 6 ≤ N) (hN : N ≤ 3072) {σ : Sg} {τ : Sl} (hI : Inv σ) (K : ∀ σ τ, Inv σ → GoL N xs 88 2098 1628 (LL i) [] (mk σ τ)) : GoL N xs 88 2098 583 (LL i) [] (mk σ τ) := by
  obtain ⟨r, σ1, τ1, σ2, τ2, e1, e2, hI2⟩ := ca_lay hI τ (xs (i + 1))
  refine GoL.st (r_aload_n (i := 1) dL_law_583 rfl rfl rfl) ?_
  refine gl_arg (i := i) (j := 1) dL_law_584 dL_law_585 dL_law_586 dL_law_587 dL_law_588 rfl rfl rfl rfl rfl rfl rfl rfl (by omega) hN ?_
  refine GoL.st (r_callV (M := M_law) (as := [.int (xs (i + 1))]) (r := some (.int r)) (kc1 := 88) (ks1 := 2098) (st := []) (st1 := [.int r]) e1 mv_X9_lay q635 ⟨Nat.le_of_ble_eq_true rfl, Nat.le_of_ble_eq_true rfl⟩ (n0 := 0) (tag := 9) rfl (Nat.le_of_ble_eq_true rfl) (by decide) ⟨_, rfl, rfl⟩ ⟨Nat.le_of_ble_eq_true rfl, Nat.le_of_ble_eq_true rfl⟩ (Nat.le_of_ble_eq_true rfl) dL_law_589 rfl rfl rfl rfl rfl) ?_
  refine GoL.st (r_aload_n (i := 2) dL_law_592 rfl rfl rfl) ?_
  refine gl_arg (i := i) (j := 1) dL_law_593 dL_law_594 dL_law_595 dL_law_596 dL_law_597 rfl rfl rfl rfl rfl rfl rfl rfl (by omega) hN ?_
  refine GoL.st (r_callV (M := M_law) (as := [.int (xs (i + 1))]) (r := some (.int r)) (kc1 := 88) (ks1 := 2098) (st := [.int r]) (st1 := [.int r, .int r]) e2 mv_X10_lay q1239 ⟨Nat.le_of_ble_eq_true rfl, Nat.le_of_ble_eq_true rfl⟩ (n0 := 0) (tag := 10) rfl (Nat.le_of_ble_eq_true rfl) (by decide) ⟨_, rfl, rfl⟩ ⟨Nat.le_of_ble_eq_true rfl, Nat.le_of_ble_eq_true rfl⟩ (Nat.le_of_ble_eq_true rfl) dL_law_598 rfl rfl rfl rfl rfl) ?_
  exact GoL.br (r_icmp_eq (tgt := 1628) dL_law_601 rfl (by decide)) (fun _ => K σ2 τ2 hI2) (fun c => absurd rfl c)
set_option maxRecDepth 20000 in
theorem lc_14 {i N : Nat} {xs : Nat → Int32} (hi : i + 6 ≤ N) (hN : N ≤ 3072) {σ : Sg} {τ : Sl} (hI : Inv σ) (K : ∀ σ τ, Inv σ → GoL N xs 88 2098 1628 (LL i) [] (mk σ τ)) : GoL N xs 88 2098 606 (LL i) [] (mk σ τ) := by
  obtain ⟨r, σ1, τ1, σ2, τ2, e1, e2, hI2⟩ := ca_clear hI τ (xs (i + 1))
  refine GoL.st (r_aload_n (i := 1) dL_law_606 rfl rfl rfl) ?_
  refine gl_arg (i := i) (j := 1) dL_law_607 dL_law_608 dL_law_609 dL_law_610 dL_law_611 rfl rfl rfl rfl rfl rfl rfl rfl (by omega) hN ?_
  refine GoL.st (r_callV (M := M_law) (as := [.int (xs (i + 1))]) (r := some (.int r)) (kc1 := 88) (ks1 := 2098) (st := []) (st1 := [.int r]) e1 mv_X9_clear q640 ⟨Nat.le_of_ble_eq_true rfl, Nat.le_of_ble_eq_true rfl⟩ (n0 := 0) (tag := 9) rfl (Nat.le_of_ble_eq_true rfl) (by decide) ⟨_, rfl, rfl⟩ ⟨Nat.le_of_ble_eq_true rfl, Nat.le_of_ble_eq_true rfl⟩ (Nat.le_of_ble_eq_true rfl) dL_law_612 rfl rfl rfl rfl rfl) ?_
  refine GoL.st (r_aload_n (i := 2) dL_law_615 rfl rfl rfl) ?_
  refine gl_arg (i := i) (j := 1) dL_law_616 dL_law_617 dL_law_618 dL_law_619 dL_law_620 rfl rfl rfl rfl rfl rfl rfl rfl (by omega) hN ?_
  refine GoL.st (r_callV (M := M_law) (as := [.int (xs (i + 1))]) (r := some (.int r)) (kc1 := 88) (ks1 := 2098) (st := [.int r]) (st1 := [.int r, .int r]) e2 mv_X10_clear q1247 ⟨Nat.le_of_ble_eq_true rfl, Nat.le_of_ble_eq_true rfl⟩ (n0 := 0) (tag := 10) rfl (Nat.le_of_ble_eq_true rfl) (by decide) ⟨_, rfl, rfl⟩ ⟨Nat.le_of_ble_eq_true rfl, Nat.le_of_ble_eq_true rfl⟩ (Nat.le_of_ble_eq_true rfl) dL_law_621 rfl rfl rfl rfl rfl) ?_
  exact GoL.br (r_icmp_eq (tgt := 1628) dL_law_624 rfl (by decide)) (fun _ => K σ2 τ2 hI2) (fun c => absurd rfl c)
set_option maxRecDepth 20000 in
theorem lc_15 {i N : Nat} {xs : Nat → Int32} (hi : i + 6 ≤ N) (hN : N ≤ 3072) {σ : Sg} {τ : Sl} (hI : Inv σ) (K : ∀ σ τ, Inv σ → GoL N xs 88 2098 1628 (LL i) [] (mk σ τ)) : GoL N xs 88 2098 629 (LL i) [] (mk σ τ) := by
  obtain ⟨r, σ1, τ1, σ2, τ2, e1, e2, hI2⟩ := ca_sue hI τ (xs (i + 1)) (xs (i + 2))
  refine GoL.st (r_aload_n (i := 1) dL_law_629 rfl rfl rfl) ?_
  refine gl_arg (i := i) (j := 1) dL_law_630 dL_law_631 dL_law_632 dL_law_633 dL_law_634 rfl rfl rfl rfl rfl rfl rfl rfl (by omega) hN ?_
  refine gl_arg (i := i) (j := 2) dL_law_635 dL_law_636 dL_law_637 dL_law_638 dL_law_639 rfl rfl rfl rfl rfl rfl rfl rfl (by omega) hN ?_
  refine GoL.st (r_callV (M := M_law) (as := [.int (xs (i + 1)), .int (xs (i + 2))]) (r := some (.int r)) (kc1 := 88) (ks1 := 2098) (st := []) (st1 := [.int r]) e1 mv_X9_sue q650 ⟨Nat.le_of_ble_eq_true rfl, Nat.le_of_ble_eq_true rfl⟩ (n0 := 0) (tag := 9) rfl (Nat.le_of_ble_eq_true rfl) (by decide) ⟨_, rfl, rfl⟩ ⟨Nat.le_of_ble_eq_true rfl, Nat.le_of_ble_eq_true rfl⟩ (Nat.le_of_ble_eq_true rfl) dL_law_640 rfl rfl rfl rfl rfl) ?_
  refine GoL.st (r_aload_n (i := 2) dL_law_643 rfl rfl rfl) ?_
  refine gl_arg (i := i) (j := 1) dL_law_644 dL_law_645 dL_law_646 dL_law_647 dL_law_648 rfl rfl rfl rfl rfl rfl rfl rfl (by omega) hN ?_
  refine gl_arg (i := i) (j := 2) dL_law_649 dL_law_650 dL_law_651 dL_law_652 dL_law_653 rfl rfl rfl rfl rfl rfl rfl rfl (by omega) hN ?_
  refine GoL.st (r_callV (M := M_law) (as := [.int (xs (i + 1)), .int (xs (i + 2))]) (r := some (.int r)) (kc1 := 88) (ks1 := 2098) (st := [.int r]) (st1 := [.int r, .int r]) e2 mv_X10_sue q1251 ⟨Nat.le_of_ble_eq_true rfl, Nat.le_of_ble_eq_true rfl⟩ (n0 := 0) (tag := 10) rfl (Nat.le_of_ble_eq_true rfl) (by decide) ⟨_, rfl, rfl⟩ ⟨Nat.le_of_ble_eq_true rfl, Nat.le_of_ble_eq_true rfl⟩ (Nat.le_of_ble_eq_true rfl) dL_law_654 rfl rfl rfl rfl rfl) ?_
  exact GoL.br (r_icmp_eq (tgt := 1628) dL_law_657 rfl (by decide)) (fun _ => K σ2 τ2 hI2) (fun c => absurd rfl c)
set_option maxRecDepth 20000 in
theorem lc_16 {i N : Nat} {xs : Nat → Int32} (hi : i + 6 ≤ N) (hN : N ≤ 3072) {σ : Sg} {τ : Sl} (hI : Inv σ) (K : ∀ σ τ, Inv σ → GoL N xs 88 2098 1628 (LL i) [] (mk σ τ)) : GoL N xs 88 2098 662 (LL i) [] (mk σ τ) := by
  obtain ⟨r, σ1, τ1, σ2, τ2, e1, e2, hI2⟩ := ca_drop hI τ (xs (i + 1))
  refine GoL.st (r_aload_n (i := 1) dL_law_662 rfl rfl rfl) ?_
  refine gl_arg (i := i) (j := 1) dL_law_663 dL_law_664 dL_law_665 dL_law_666 dL_law_667 rfl rfl rfl rfl rfl rfl rfl rfl (by omega) hN ?_
  refine GoL.st (r_callV (M := M_law) (as := [.int (xs (i + 1))]) (r := some (.int r)) (kc1 := 88) (ks1 := 2098) (st := []) (st1 := [.int r]) e1 mv_X9_drop q662 ⟨Nat.le_of_ble_eq_true rfl, Nat.le_of_ble_eq_true rfl⟩ (n0 := 0) (tag := 9) rfl (Nat.le_of_ble_eq_true rfl) (by decide) ⟨_, rfl, rfl⟩ ⟨Nat.le_of_ble_eq_true rfl, Nat.le_of_ble_eq_true rfl⟩ (Nat.le_of_ble_eq_true rfl) dL_law_668 rfl rfl rfl rfl rfl) ?_
  refine GoL.st (r_aload_n (i := 2) dL_law_671 rfl rfl rfl) ?_
  refine gl_arg (i := i) (j := 1) dL_law_672 dL_law_673 dL_law_674 dL_law_675 dL_law_676 rfl rfl rfl rfl rfl rfl rfl rfl (by omega) hN ?_
  refine GoL.st (r_callV (M := M_law) (as := [.int (xs (i + 1))]) (r := some (.int r)) (kc1 := 88) (ks1 := 2098) (st := [.int r]) (st1 := [.int r, .int r]) e2 mv_X10_drop q1259 ⟨Nat.le_of_ble_eq_true rfl, Nat.le_of_ble_eq_true rfl⟩ (n0 := 0) (tag := 10) rfl (Nat.le_of_ble_eq_true rfl) (by decide) ⟨_, rfl, rfl⟩ ⟨Nat.le_of_ble_eq_true rfl, Nat.le_of_ble_eq_true rfl⟩ (Nat.le_of_ble_eq_true rfl) dL_law_677 rfl rfl rfl rfl rfl) ?_
  exact GoL.br (r_icmp_eq (tgt := 1628) dL_law_680 rfl (by decide)) (fun _ => K σ2 τ2 hI2) (fun c => absurd rfl c)
set_option maxRecDepth 20000 in
theorem lc_17 {i N : Nat} {xs : Nat → Int32} (hi : i + 6 ≤ N) (hN : N ≤ 3072) {σ : Sg} {τ : Sl} (hI : Inv σ) (K : ∀ σ τ, Inv σ → GoL N xs 88 2098 1628 (LL i) [] (mk σ τ)) : GoL N xs 88 2098 685 (LL i) [] (mk σ τ) := by
  obtain ⟨r, σ1, τ1, σ2, τ2, e1, e2, hI2⟩ := ca_run hI τ (xs (i + 1)) (xs (i + 2)) (xs (i + 3))
  refine GoL.st (r_aload_n (i := 1) dL_law_685 rfl rfl rfl) ?_
  refine gl_arg (i := i) (j := 1) dL_law_686 dL_law_687 dL_law_688 dL_law_689 dL_law_690 rfl rfl rfl rfl rfl rfl rfl rfl (by omega) hN ?_
  refine gl_arg (i := i) (j := 2) dL_law_691 dL_law_692 dL_law_693 dL_law_694 dL_law_695 rfl rfl rfl rfl rfl rfl rfl rfl (by omega) hN ?_
  refine gl_arg (i := i) (j := 3) dL_law_696 dL_law_697 dL_law_698 dL_law_699 dL_law_700 rfl rfl rfl rfl rfl rfl rfl rfl (by omega) hN ?_
  refine GoL.st (r_callV (M := M_law) (as := [.int (xs (i + 1)), .int (xs (i + 2)), .int (xs (i + 3))]) (r := some (.int r)) (kc1 := 88) (ks1 := 2098) (st := []) (st1 := [.int r]) e1 mv_X9_run q666 ⟨Nat.le_of_ble_eq_true rfl, Nat.le_of_ble_eq_true rfl⟩ (n0 := 0) (tag := 9) rfl (Nat.le_of_ble_eq_true rfl) (by decide) ⟨_, rfl, rfl⟩ ⟨Nat.le_of_ble_eq_true rfl, Nat.le_of_ble_eq_true rfl⟩ (Nat.le_of_ble_eq_true rfl) dL_law_701 rfl rfl rfl rfl rfl) ?_
  refine GoL.st (r_aload_n (i := 2) dL_law_704 rfl rfl rfl) ?_
  refine gl_arg (i := i) (j := 1) dL_law_705 dL_law_706 dL_law_707 dL_law_708 dL_law_709 rfl rfl rfl rfl rfl rfl rfl rfl (by omega) hN ?_
  refine gl_arg (i := i) (j := 2) dL_law_710 dL_law_711 dL_law_712 dL_law_713 dL_law_714 rfl rfl rfl rfl rfl rfl rfl rfl (by omega) hN ?_
  refine gl_arg (i := i) (j := 3) dL_law_715 dL_law_716 dL_law_717 dL_law_718 dL_law_719 rfl rfl rfl rfl rfl rfl rfl rfl (by omega) hN ?_
  refine GoL.st (r_callV (M := M_law) (as := [.int (xs (i + 1)), .int (xs (i + 2)), .int (xs (i + 3))]) (r := some (.int r)) (kc1 := 88) (ks1 := 2098) (st := [.int r]) (st1 := [.int r, .int r]) e2 mv_X10_run q1263 ⟨Nat.le_of_ble_eq_true rfl, Nat.le_of_ble_eq_true rfl⟩ (n0 := 0) (tag := 10) rfl (Nat.le_of_ble_eq_true rfl) (by decide) ⟨_, rfl, rfl⟩ ⟨Nat.le_of_ble_eq_true rfl, Nat.le_of_ble_eq_true rfl⟩ (Nat.le_of_ble_eq_true rfl) dL_law_720 rfl rfl rfl rfl rfl) ?_
  exact GoL.br (r_icmp_eq (tgt := 1628) dL_law_723 rfl (by decide)) (fun _ => K σ2 τ2 hI2) (fun c => absurd rfl c)
set_option maxRecDepth 20000 in
theorem lc_18 {i N : Nat} {xs : Nat → Int32} (hi : i + 6 ≤ N) (hN : N ≤ 3072) {σ : Sg} {τ : Sl} (hI : Inv σ) (K : ∀ σ τ, Inv σ → GoL N xs 88 2098 1628 (LL i) [] (mk σ τ)) : GoL N xs 88 2098 728 (LL i) [] (mk σ τ) := by
  obtain ⟨r, σ1, τ1, σ2, τ2, e1, e2, hI2⟩ := ca_way hI τ (xs (i + 1)) (xs (i + 2)) (xs (i + 3))
  refine GoL.st (r_aload_n (i := 1) dL_law_728 rfl rfl rfl) ?_
  refine gl_arg (i := i) (j := 1) dL_law_729 dL_law_730 dL_law_731 dL_law_732 dL_law_733 rfl rfl rfl rfl rfl rfl rfl rfl (by omega) hN ?_
  refine gl_arg (i := i) (j := 2) dL_law_734 dL_law_735 dL_law_736 dL_law_737 dL_law_738 rfl rfl rfl rfl rfl rfl rfl rfl (by omega) hN ?_
  refine gl_arg (i := i) (j := 3) dL_law_739 dL_law_740 dL_law_741 dL_law_742 dL_law_743 rfl rfl rfl rfl rfl rfl rfl rfl (by omega) hN ?_
  refine GoL.st (r_callV (M := M_law) (as := [.int (xs (i + 1)), .int (xs (i + 2)), .int (xs (i + 3))]) (r := some (.int r)) (kc1 := 88) (ks1 := 2098) (st := []) (st1 := [.int r]) e1 mv_X9_way q671 ⟨Nat.le_of_ble_eq_true rfl, Nat.le_of_ble_eq_true rfl⟩ (n0 := 0) (tag := 9) rfl (Nat.le_of_ble_eq_true rfl) (by decide) ⟨_, rfl, rfl⟩ ⟨Nat.le_of_ble_eq_true rfl, Nat.le_of_ble_eq_true rfl⟩ (Nat.le_of_ble_eq_true rfl) dL_law_744 rfl rfl rfl rfl rfl) ?_
  refine GoL.st (r_aload_n (i := 2) dL_law_747 rfl rfl rfl) ?_
  refine gl_arg (i := i) (j := 1) dL_law_748 dL_law_749 dL_law_750 dL_law_751 dL_law_752 rfl rfl rfl rfl rfl rfl rfl rfl (by omega) hN ?_
  refine gl_arg (i := i) (j := 2) dL_law_753 dL_law_754 dL_law_755 dL_law_756 dL_law_757 rfl rfl rfl rfl rfl rfl rfl rfl (by omega) hN ?_
  refine gl_arg (i := i) (j := 3) dL_law_758 dL_law_759 dL_law_760 dL_law_761 dL_law_762 rfl rfl rfl rfl rfl rfl rfl rfl (by omega) hN ?_
  refine GoL.st (r_callV (M := M_law) (as := [.int (xs (i + 1)), .int (xs (i + 2)), .int (xs (i + 3))]) (r := some (.int r)) (kc1 := 88) (ks1 := 2098) (st := [.int r]) (st1 := [.int r, .int r]) e2 mv_X10_way q1268 ⟨Nat.le_of_ble_eq_true rfl, Nat.le_of_ble_eq_true rfl⟩ (n0 := 0) (tag := 10) rfl (Nat.le_of_ble_eq_true rfl) (by decide) ⟨_, rfl, rfl⟩ ⟨Nat.le_of_ble_eq_true rfl, Nat.le_of_ble_eq_true rfl⟩ (Nat.le_of_ble_eq_true rfl) dL_law_763 rfl rfl rfl rfl rfl) ?_
  exact GoL.br (r_icmp_eq (tgt := 1628) dL_law_766 rfl (by decide)) (fun _ => K σ2 τ2 hI2) (fun c => absurd rfl c)
set_option maxRecDepth 20000 in
theorem lc_19 {i N : Nat} {xs : Nat → Int32} (hi : i + 6 ≤ N) (hN : N ≤ 3072) {σ : Sg} {τ : Sl} (hI : Inv σ) (K : ∀ σ τ, Inv σ → GoL N xs 88 2098 1628 (LL i) [] (mk σ τ)) : GoL N xs 88 2098 771 (LL i) [] (mk σ τ) := by
  obtain ⟨r, σ1, τ1, σ2, τ2, e1, e2, hI2⟩ := ca_wins hI τ (xs (i + 1))
  refine GoL.st (r_aload_n (i := 1) dL_law_771 rfl rfl rfl) ?_
  refine gl_arg (i := i) (j := 1) dL_law_772 dL_law_773 dL_law_774 dL_law_775 dL_law_776 rfl rfl rfl rfl rfl rfl rfl rfl (by omega) hN ?_
  refine GoL.st (r_callV (M := M_law) (as := [.int (xs (i + 1))]) (r := some (.int r)) (kc1 := 88) (ks1 := 2098) (st := []) (st1 := [.int r]) e1 mv_X9_wins q675 ⟨Nat.le_of_ble_eq_true rfl, Nat.le_of_ble_eq_true rfl⟩ (n0 := 0) (tag := 9) rfl (Nat.le_of_ble_eq_true rfl) (by decide) ⟨_, rfl, rfl⟩ ⟨Nat.le_of_ble_eq_true rfl, Nat.le_of_ble_eq_true rfl⟩ (Nat.le_of_ble_eq_true rfl) dL_law_777 rfl rfl rfl rfl rfl) ?_
  refine GoL.st (r_aload_n (i := 2) dL_law_780 rfl rfl rfl) ?_
  refine gl_arg (i := i) (j := 1) dL_law_781 dL_law_782 dL_law_783 dL_law_784 dL_law_785 rfl rfl rfl rfl rfl rfl rfl rfl (by omega) hN ?_
  refine GoL.st (r_callV (M := M_law) (as := [.int (xs (i + 1))]) (r := some (.int r)) (kc1 := 88) (ks1 := 2098) (st := [.int r]) (st1 := [.int r, .int r]) e2 mv_X10_wins q1272 ⟨Nat.le_of_ble_eq_true rfl, Nat.le_of_ble_eq_true rfl⟩ (n0 := 0) (tag := 10) rfl (Nat.le_of_ble_eq_true rfl) (by decide) ⟨_, rfl, rfl⟩ ⟨Nat.le_of_ble_eq_true rfl, Nat.le_of_ble_eq_true rfl⟩ (Nat.le_of_ble_eq_true rfl) dL_law_786 rfl rfl rfl rfl rfl) ?_
  exact GoL.br (r_icmp_eq (tgt := 1628) dL_law_789 rfl (by decide)) (fun _ => K σ2 τ2 hI2) (fun c => absurd rfl c)
set_option maxRecDepth 20000 in
theorem lc_20 {i N : Nat} {xs : Nat → Int32} (hi : i + 6 ≤ N) (hN : N ≤ 3072) {σ : Sg} {τ : Sl} (hI : Inv σ) (K : ∀ σ τ, Inv σ → GoL N xs 88 2098 1628 (LL i) [] (mk σ τ)) : GoL N xs 88 2098 794 (LL i) [] (mk σ τ) := by
  obtain ⟨r, σ1, τ1, σ2, τ2, e1, e2, hI2⟩ := ca_share hI τ (xs (i + 1)) (xs (i + 2))
  refine GoL.st (r_aload_n (i := 1) dL_law_794 rfl rfl rfl) ?_
  refine gl_arg (i := i) (j := 1) dL_law_795 dL_law_796 dL_law_797 dL_law_798 dL_law_799 rfl rfl rfl rfl rfl rfl rfl rfl (by omega) hN ?_
  refine gl_arg (i := i) (j := 2) dL_law_800 dL_law_801 dL_law_802 dL_law_803 dL_law_804 rfl rfl rfl rfl rfl rfl rfl rfl (by omega) hN ?_
  refine GoL.st (r_callV (M := M_law) (as := [.int (xs (i + 1)), .int (xs (i + 2))]) (r := some (.int r)) (kc1 := 88) (ks1 := 2098) (st := []) (st1 := [.int r]) e1 mv_X9_share q683 ⟨Nat.le_of_ble_eq_true rfl, Nat.le_of_ble_eq_true rfl⟩ (n0 := 0) (tag := 9) rfl (Nat.le_of_ble_eq_true rfl) (by decide) ⟨_, rfl, rfl⟩ ⟨Nat.le_of_ble_eq_true rfl, Nat.le_of_ble_eq_true rfl⟩ (Nat.le_of_ble_eq_true rfl) dL_law_805 rfl rfl rfl rfl rfl) ?_
  refine GoL.st (r_aload_n (i := 2) dL_law_808 rfl rfl rfl) ?_
  refine gl_arg (i := i) (j := 1) dL_law_809 dL_law_810 dL_law_811 dL_law_812 dL_law_813 rfl rfl rfl rfl rfl rfl rfl rfl (by omega) hN ?_
  refine gl_arg (i := i) (j := 2) dL_law_814 dL_law_815 dL_law_816 dL_law_817 dL_law_818 rfl rfl rfl rfl rfl rfl rfl rfl (by omega) hN ?_
  refine GoL.st (r_callV (M := M_law) (as := [.int (xs (i + 1)), .int (xs (i + 2))]) (r := some (.int r)) (kc1 := 88) (ks1 := 2098) (st := [.int r]) (st1 := [.int r, .int r]) e2 mv_X10_share q1276 ⟨Nat.le_of_ble_eq_true rfl, Nat.le_of_ble_eq_true rfl⟩ (n0 := 0) (tag := 10) rfl (Nat.le_of_ble_eq_true rfl) (by decide) ⟨_, rfl, rfl⟩ ⟨Nat.le_of_ble_eq_true rfl, Nat.le_of_ble_eq_true rfl⟩ (Nat.le_of_ble_eq_true rfl) dL_law_819 rfl rfl rfl rfl rfl) ?_
  exact GoL.br (r_icmp_eq (tgt := 1628) dL_law_822 rfl (by decide)) (fun _ => K σ2 τ2 hI2) (fun c => absurd rfl c)
set_option maxRecDepth 20000 in
theorem lc_21 {i N : Nat} {xs : Nat → Int32} (hi : i + 6 ≤ N) (hN : N ≤ 3072) {σ : Sg} {τ : Sl} (hI : Inv σ) (K : ∀ σ τ, Inv σ → GoL N xs 88 2098 1628 (LL i) [] (mk σ τ)) : GoL N xs 88 2098 827 (LL i) [] (mk σ τ) := by
  obtain ⟨r, σ1, τ1, σ2, τ2, e1, e2, hI2⟩ := ca_first hI τ (xs (i + 1)) (xs (i + 2))
  refine GoL.st (r_aload_n (i := 1) dL_law_827 rfl rfl rfl) ?_
  refine gl_arg (i := i) (j := 1) dL_law_828 dL_law_829 dL_law_830 dL_law_831 dL_law_832 rfl rfl rfl rfl rfl rfl rfl rfl (by omega) hN ?_
  refine gl_arg (i := i) (j := 2) dL_law_833 dL_law_834 dL_law_835 dL_law_836 dL_law_837 rfl rfl rfl rfl rfl rfl rfl rfl (by omega) hN ?_
  refine GoL.st (r_callV (M := M_law) (as := [.int (xs (i + 1)), .int (xs (i + 2))]) (r := some (.int r)) (kc1 := 88) (ks1 := 2098) (st := []) (st1 := [.int r]) e1 mv_X9_first q697 ⟨Nat.le_of_ble_eq_true rfl, Nat.le_of_ble_eq_true rfl⟩ (n0 := 0) (tag := 9) rfl (Nat.le_of_ble_eq_true rfl) (by decide) ⟨_, rfl, rfl⟩ ⟨Nat.le_of_ble_eq_true rfl, Nat.le_of_ble_eq_true rfl⟩ (Nat.le_of_ble_eq_true rfl) dL_law_838 rfl rfl rfl rfl rfl) ?_
  refine GoL.st (r_aload_n (i := 2) dL_law_841 rfl rfl rfl) ?_
  refine gl_arg (i := i) (j := 1) dL_law_842 dL_law_843 dL_law_844 dL_law_845 dL_law_846 rfl rfl rfl rfl rfl rfl rfl rfl (by omega) hN ?_
  refine gl_arg (i := i) (j := 2) dL_law_847 dL_law_848 dL_law_849 dL_law_850 dL_law_851 rfl rfl rfl rfl rfl rfl rfl rfl (by omega) hN ?_
  refine GoL.st (r_callV (M := M_law) (as := [.int (xs (i + 1)), .int (xs (i + 2))]) (r := some (.int r)) (kc1 := 88) (ks1 := 2098) (st := [.int r]) (st1 := [.int r, .int r]) e2 mv_X10_first q1280 ⟨Nat.le_of_ble_eq_true rfl, Nat.le_of_ble_eq_true rfl⟩ (n0 := 0) (tag := 10) rfl (Nat.le_of_ble_eq_true rfl) (by decide) ⟨_, rfl, rfl⟩ ⟨Nat.le_of_ble_eq_true rfl, Nat.le_of_ble_eq_true rfl⟩ (Nat.le_of_ble_eq_true rfl) dL_law_852 rfl rfl rfl rfl rfl) ?_
  exact GoL.br (r_icmp_eq (tgt := 1628) dL_law_855 rfl (by decide)) (fun _ => K σ2 τ2 hI2) (fun c => absurd rfl c)
set_option maxRecDepth 20000 in
theorem lc_22 {i N : Nat} {xs : Nat → Int32} (hi : i + 6 ≤ N) (hN : N ≤ 3072) {σ : Sg} {τ : Sl} (hI : Inv σ) (K : ∀ σ τ, Inv σ → GoL N xs 88 2098 1628 (LL i) [] (mk σ τ)) : GoL N xs 88 2098 860 (LL i) [] (mk σ τ) := by
  obtain ⟨r, σ1, τ1, σ2, τ2, e1, e2, hI2⟩ := ca_kindly hI τ (xs (i + 1)) (xs (i + 2)) (xs (i + 3))
  refine GoL.st (r_aload_n (i := 1) dL_law_860 rfl rfl rfl) ?_
  refine gl_arg (i := i) (j := 1) dL_law_861 dL_law_862 dL_law_863 dL_law_864 dL_law_865 rfl rfl rfl rfl rfl rfl rfl rfl (by omega) hN ?_
  refine gl_arg (i := i) (j := 2) dL_law_866 dL_law_867 dL_law_868 dL_law_869 dL_law_870 rfl rfl rfl rfl rfl rfl rfl rfl (by omega) hN ?_
  refine gl_arg (i := i) (j := 3) dL_law_871 dL_law_872 dL_law_873 dL_law_874 dL_law_875 rfl rfl rfl rfl rfl rfl rfl rfl (by omega) hN ?_
  refine GoL.st (r_callV (M := M_law) (as := [.int (xs (i + 1)), .int (xs (i + 2)), .int (xs (i + 3))]) (r := some (.int r)) (kc1 := 88) (ks1 := 2098) (st := []) (st1 := [.int r]) e1 mv_X9_kindly q705 ⟨Nat.le_of_ble_eq_true rfl, Nat.le_of_ble_eq_true rfl⟩ (n0 := 0) (tag := 9) rfl (Nat.le_of_ble_eq_true rfl) (by decide) ⟨_, rfl, rfl⟩ ⟨Nat.le_of_ble_eq_true rfl, Nat.le_of_ble_eq_true rfl⟩ (Nat.le_of_ble_eq_true rfl) dL_law_876 rfl rfl rfl rfl rfl) ?_
  refine GoL.st (r_aload_n (i := 2) dL_law_879 rfl rfl rfl) ?_
  refine gl_arg (i := i) (j := 1) dL_law_880 dL_law_881 dL_law_882 dL_law_883 dL_law_884 rfl rfl rfl rfl rfl rfl rfl rfl (by omega) hN ?_
  refine gl_arg (i := i) (j := 2) dL_law_885 dL_law_886 dL_law_887 dL_law_888 dL_law_889 rfl rfl rfl rfl rfl rfl rfl rfl (by omega) hN ?_
  refine gl_arg (i := i) (j := 3) dL_law_890 dL_law_891 dL_law_892 dL_law_893 dL_law_894 rfl rfl rfl rfl rfl rfl rfl rfl (by omega) hN ?_
  refine GoL.st (r_callV (M := M_law) (as := [.int (xs (i + 1)), .int (xs (i + 2)), .int (xs (i + 3))]) (r := some (.int r)) (kc1 := 88) (ks1 := 2098) (st := [.int r]) (st1 := [.int r, .int r]) e2 mv_X10_kindly q1284 ⟨Nat.le_of_ble_eq_true rfl, Nat.le_of_ble_eq_true rfl⟩ (n0 := 0) (tag := 10) rfl (Nat.le_of_ble_eq_true rfl) (by decide) ⟨_, rfl, rfl⟩ ⟨Nat.le_of_ble_eq_true rfl, Nat.le_of_ble_eq_true rfl⟩ (Nat.le_of_ble_eq_true rfl) dL_law_895 rfl rfl rfl rfl rfl) ?_
  exact GoL.br (r_icmp_eq (tgt := 1628) dL_law_898 rfl (by decide)) (fun _ => K σ2 τ2 hI2) (fun c => absurd rfl c)
set_option maxRecDepth 20000 in
theorem lc_23 {i N : Nat} {xs : Nat → Int32} (hi : i + 6 ≤ N) (hN : N ≤ 3072) {σ : Sg} {τ : Sl} (hI : Inv σ) (K : ∀ σ τ, Inv σ → GoL N xs 88 2098 1628 (LL i) [] (mk σ τ)) : GoL N xs 88 2098 903 (LL i) [] (mk σ τ) := by
  obtain ⟨r, σ1, τ1, σ2, τ2, e1, e2, hI2⟩ := ca_place hI τ (xs (i + 1)) (xs (i + 2))
  refine GoL.st (r_aload_n (i := 1) dL_law_903 rfl rfl rfl) ?_
  refine gl_arg (i := i) (j := 1) dL_law_904 dL_law_905 dL_law_906 dL_law_907 dL_law_908 rfl rfl rfl rfl rfl rfl rfl rfl (by omega) hN ?_
  refine gl_arg (i := i) (j := 2) dL_law_909 dL_law_910 dL_law_911 dL_law_912 dL_law_913 rfl rfl rfl rfl rfl rfl rfl rfl (by omega) hN ?_
  refine GoL.st (r_callV (M := M_law) (as := [.int (xs (i + 1)), .int (xs (i + 2))]) (r := some (.int r)) (kc1 := 88) (ks1 := 2098) (st := []) (st1 := [.int r]) e1 mv_X9_place q713 ⟨Nat.le_of_ble_eq_true rfl, Nat.le_of_ble_eq_true rfl⟩ (n0 := 0) (tag := 9) rfl (Nat.le_of_ble_eq_true rfl) (by decide) ⟨_, rfl, rfl⟩ ⟨Nat.le_of_ble_eq_true rfl, Nat.le_of_ble_eq_true rfl⟩ (Nat.le_of_ble_eq_true rfl) dL_law_914 rfl rfl rfl rfl rfl) ?_
  refine GoL.st (r_aload_n (i := 2) dL_law_917 rfl rfl rfl) ?_
  refine gl_arg (i := i) (j := 1) dL_law_918 dL_law_919 dL_law_920 dL_law_921 dL_law_922 rfl rfl rfl rfl rfl rfl rfl rfl (by omega) hN ?_
  refine gl_arg (i := i) (j := 2) dL_law_923 dL_law_924 dL_law_925 dL_law_926 dL_law_927 rfl rfl rfl rfl rfl rfl rfl rfl (by omega) hN ?_
  refine GoL.st (r_callV (M := M_law) (as := [.int (xs (i + 1)), .int (xs (i + 2))]) (r := some (.int r)) (kc1 := 88) (ks1 := 2098) (st := [.int r]) (st1 := [.int r, .int r]) e2 mv_X10_place q1292 ⟨Nat.le_of_ble_eq_true rfl, Nat.le_of_ble_eq_true rfl⟩ (n0 := 0) (tag := 10) rfl (Nat.le_of_ble_eq_true rfl) (by decide) ⟨_, rfl, rfl⟩ ⟨Nat.le_of_ble_eq_true rfl, Nat.le_of_ble_eq_true rfl⟩ (Nat.le_of_ble_eq_true rfl) dL_law_928 rfl rfl rfl rfl rfl) ?_
  exact GoL.br (r_icmp_eq (tgt := 1628) dL_law_931 rfl (by decide)) (fun _ => K σ2 τ2 hI2) (fun c => absurd rfl c)
set_option maxRecDepth 20000 in
theorem lc_24 {i N : Nat} {xs : Nat → Int32} (hi : i + 6 ≤ N) (hN : N ≤ 3072) {σ : Sg} {τ : Sl} (hI : Inv σ) (K : ∀ σ τ, Inv σ → GoL N xs 88 2098 1628 (LL i) [] (mk σ τ)) : GoL N xs 88 2098 936 (LL i) [] (mk σ τ) := by
  obtain ⟨r, σ1, τ1, σ2, τ2, e1, e2, hI2⟩ := ca_move hI τ (xs (i + 1)) (xs (i + 2))
  refine GoL.st (r_aload_n (i := 1) dL_law_936 rfl rfl rfl) ?_
  refine gl_arg (i := i) (j := 1) dL_law_937 dL_law_938 dL_law_939 dL_law_940 dL_law_941 rfl rfl rfl rfl rfl rfl rfl rfl (by omega) hN ?_
  refine gl_arg (i := i) (j := 2) dL_law_942 dL_law_943 dL_law_944 dL_law_945 dL_law_946 rfl rfl rfl rfl rfl rfl rfl rfl (by omega) hN ?_
  refine GoL.st (r_callV (M := M_law) (as := [.int (xs (i + 1)), .int (xs (i + 2))]) (r := some (.int r)) (kc1 := 88) (ks1 := 2098) (st := []) (st1 := [.int r]) e1 mv_X9_move q743 ⟨Nat.le_of_ble_eq_true rfl, Nat.le_of_ble_eq_true rfl⟩ (n0 := 0) (tag := 9) rfl (Nat.le_of_ble_eq_true rfl) (by decide) ⟨_, rfl, rfl⟩ ⟨Nat.le_of_ble_eq_true rfl, Nat.le_of_ble_eq_true rfl⟩ (Nat.le_of_ble_eq_true rfl) dL_law_947 rfl rfl rfl rfl rfl) ?_
  refine GoL.st (r_aload_n (i := 2) dL_law_950 rfl rfl rfl) ?_
  refine gl_arg (i := i) (j := 1) dL_law_951 dL_law_952 dL_law_953 dL_law_954 dL_law_955 rfl rfl rfl rfl rfl rfl rfl rfl (by omega) hN ?_
  refine gl_arg (i := i) (j := 2) dL_law_956 dL_law_957 dL_law_958 dL_law_959 dL_law_960 rfl rfl rfl rfl rfl rfl rfl rfl (by omega) hN ?_
  refine GoL.st (r_callV (M := M_law) (as := [.int (xs (i + 1)), .int (xs (i + 2))]) (r := some (.int r)) (kc1 := 88) (ks1 := 2098) (st := [.int r]) (st1 := [.int r, .int r]) e2 mv_X10_move q1299 ⟨Nat.le_of_ble_eq_true rfl, Nat.le_of_ble_eq_true rfl⟩ (n0 := 0) (tag := 10) rfl (Nat.le_of_ble_eq_true rfl) (by decide) ⟨_, rfl, rfl⟩ ⟨Nat.le_of_ble_eq_true rfl, Nat.le_of_ble_eq_true rfl⟩ (Nat.le_of_ble_eq_true rfl) dL_law_961 rfl rfl rfl rfl rfl) ?_
  exact GoL.br (r_icmp_eq (tgt := 1628) dL_law_964 rfl (by decide)) (fun _ => K σ2 τ2 hI2) (fun c => absurd rfl c)
set_option maxRecDepth 20000 in
theorem lc_25 {i N : Nat} {xs : Nat → Int32} (hi : i + 6 ≤ N) (hN : N ≤ 3072) {σ : Sg} {τ : Sl} (hI : Inv σ) (K : ∀ σ τ, Inv σ → GoL N xs 88 2098 1628 (LL i) [] (mk σ τ)) : GoL N xs 88 2098 969 (LL i) [] (mk σ τ) := by
  obtain ⟨r, σ1, τ1, σ2, τ2, e1, e2, hI2⟩ := ca_bribe hI τ (xs (i + 1)) (xs (i + 2))
  refine GoL.st (r_aload_n (i := 1) dL_law_969 rfl rfl rfl) ?_
  refine gl_arg (i := i) (j := 1) dL_law_970 dL_law_971 dL_law_972 dL_law_973 dL_law_974 rfl rfl rfl rfl rfl rfl rfl rfl (by omega) hN ?_
  refine gl_arg (i := i) (j := 2) dL_law_975 dL_law_976 dL_law_977 dL_law_978 dL_law_979 rfl rfl rfl rfl rfl rfl rfl rfl (by omega) hN ?_
  refine GoL.st (r_callV (M := M_law) (as := [.int (xs (i + 1)), .int (xs (i + 2))]) (r := some (.int r)) (kc1 := 88) (ks1 := 2098) (st := []) (st1 := [.int r]) e1 mv_X9_bribe q754 ⟨Nat.le_of_ble_eq_true rfl, Nat.le_of_ble_eq_true rfl⟩ (n0 := 0) (tag := 9) rfl (Nat.le_of_ble_eq_true rfl) (by decide) ⟨_, rfl, rfl⟩ ⟨Nat.le_of_ble_eq_true rfl, Nat.le_of_ble_eq_true rfl⟩ (Nat.le_of_ble_eq_true rfl) dL_law_980 rfl rfl rfl rfl rfl) ?_
  refine GoL.st (r_aload_n (i := 2) dL_law_983 rfl rfl rfl) ?_
  refine gl_arg (i := i) (j := 1) dL_law_984 dL_law_985 dL_law_986 dL_law_987 dL_law_988 rfl rfl rfl rfl rfl rfl rfl rfl (by omega) hN ?_
  refine gl_arg (i := i) (j := 2) dL_law_989 dL_law_990 dL_law_991 dL_law_992 dL_law_993 rfl rfl rfl rfl rfl rfl rfl rfl (by omega) hN ?_
  refine GoL.st (r_callV (M := M_law) (as := [.int (xs (i + 1)), .int (xs (i + 2))]) (r := some (.int r)) (kc1 := 88) (ks1 := 2098) (st := [.int r]) (st1 := [.int r, .int r]) e2 mv_X10_bribe q1303 ⟨Nat.le_of_ble_eq_true rfl, Nat.le_of_ble_eq_true rfl⟩ (n0 := 0) (tag := 10) rfl (Nat.le_of_ble_eq_true rfl) (by decide) ⟨_, rfl, rfl⟩ ⟨Nat.le_of_ble_eq_true rfl, Nat.le_of_ble_eq_true rfl⟩ (Nat.le_of_ble_eq_true rfl) dL_law_994 rfl rfl rfl rfl rfl) ?_
  exact GoL.br (r_icmp_eq (tgt := 1628) dL_law_997 rfl (by decide)) (fun _ => K σ2 τ2 hI2) (fun c => absurd rfl c)
set_option maxRecDepth 20000 in
theorem lc_26 {i N : Nat} {xs : Nat → Int32} (hi : i + 6 ≤ N) (hN : N ≤ 3072) {σ : Sg} {τ : Sl} (hI : Inv σ) (K : ∀ σ τ, Inv σ → GoL N xs 88 2098 1628 (LL i) [] (mk σ τ)) : GoL N xs 88 2098 1002 (LL i) [] (mk σ τ) := by
  obtain ⟨r, σ1, τ1, σ2, τ2, e1, e2, hI2⟩ := ca_need hI τ (xs (i + 1)) (xs (i + 2))
  refine GoL.st (r_aload_n (i := 1) dL_law_1002 rfl rfl rfl) ?_
  refine gl_arg (i := i) (j := 1) dL_law_1003 dL_law_1004 dL_law_1005 dL_law_1006 dL_law_1007 rfl rfl rfl rfl rfl rfl rfl rfl (by omega) hN ?_
  refine gl_arg (i := i) (j := 2) dL_law_1008 dL_law_1009 dL_law_1010 dL_law_1011 dL_law_1012 rfl rfl rfl rfl rfl rfl rfl rfl (by omega) hN ?_
  refine GoL.st (r_callV (M := M_law) (as := [.int (xs (i + 1)), .int (xs (i + 2))]) (r := some (.int r)) (kc1 := 88) (ks1 := 2098) (st := []) (st1 := [.int r]) e1 mv_X9_need q772 ⟨Nat.le_of_ble_eq_true rfl, Nat.le_of_ble_eq_true rfl⟩ (n0 := 0) (tag := 9) rfl (Nat.le_of_ble_eq_true rfl) (by decide) ⟨_, rfl, rfl⟩ ⟨Nat.le_of_ble_eq_true rfl, Nat.le_of_ble_eq_true rfl⟩ (Nat.le_of_ble_eq_true rfl) dL_law_1013 rfl rfl rfl rfl rfl) ?_
  refine GoL.st (r_aload_n (i := 2) dL_law_1016 rfl rfl rfl) ?_
  refine gl_arg (i := i) (j := 1) dL_law_1017 dL_law_1018 dL_law_1019 dL_law_1020 dL_law_1021 rfl rfl rfl rfl rfl rfl rfl rfl (by omega) hN ?_
  refine gl_arg (i := i) (j := 2) dL_law_1022 dL_law_1023 dL_law_1024 dL_law_1025 dL_law_1026 rfl rfl rfl rfl rfl rfl rfl rfl (by omega) hN ?_
  refine GoL.st (r_callV (M := M_law) (as := [.int (xs (i + 1)), .int (xs (i + 2))]) (r := some (.int r)) (kc1 := 88) (ks1 := 2098) (st := [.int r]) (st1 := [.int r, .int r]) e2 mv_X10_need q1307 ⟨Nat.le_of_ble_eq_true rfl, Nat.le_of_ble_eq_true rfl⟩ (n0 := 0) (tag := 10) rfl (Nat.le_of_ble_eq_true rfl) (by decide) ⟨_, rfl, rfl⟩ ⟨Nat.le_of_ble_eq_true rfl, Nat.le_of_ble_eq_true rfl⟩ (Nat.le_of_ble_eq_true rfl) dL_law_1027 rfl rfl rfl rfl rfl) ?_
  exact GoL.br (r_icmp_eq (tgt := 1628) dL_law_1030 rfl (by decide)) (fun _ => K σ2 τ2 hI2) (fun c => absurd rfl c)
set_option maxRecDepth 20000 in
theorem lc_27 {i N : Nat} {xs : Nat → Int32} (hi : i + 6 ≤ N) (hN : N ≤ 3072) {σ : Sg} {τ : Sl} (hI : Inv σ) (K : ∀ σ τ, Inv σ → GoL N xs 88 2098 1628 (LL i) [] (mk σ τ)) : GoL N xs 88 2098 1035 (LL i) [] (mk σ τ) := by
  obtain ⟨r, σ1, τ1, σ2, τ2, e1, e2, hI2⟩ := ca_swap hI τ (xs (i + 1)) (xs (i + 2))
  refine GoL.st (r_aload_n (i := 1) dL_law_1035 rfl rfl rfl) ?_
  refine gl_arg (i := i) (j := 1) dL_law_1036 dL_law_1037 dL_law_1038 dL_law_1039 dL_law_1040 rfl rfl rfl rfl rfl rfl rfl rfl (by omega) hN ?_
  refine gl_arg (i := i) (j := 2) dL_law_1041 dL_law_1042 dL_law_1043 dL_law_1044 dL_law_1045 rfl rfl rfl rfl rfl rfl rfl rfl (by omega) hN ?_
  refine GoL.st (r_callV (M := M_law) (as := [.int (xs (i + 1)), .int (xs (i + 2))]) (r := some (.int r)) (kc1 := 88) (ks1 := 2098) (st := []) (st1 := [.int r]) e1 mv_X9_swap q776 ⟨Nat.le_of_ble_eq_true rfl, Nat.le_of_ble_eq_true rfl⟩ (n0 := 0) (tag := 9) rfl (Nat.le_of_ble_eq_true rfl) (by decide) ⟨_, rfl, rfl⟩ ⟨Nat.le_of_ble_eq_true rfl, Nat.le_of_ble_eq_true rfl⟩ (Nat.le_of_ble_eq_true rfl) dL_law_1046 rfl rfl rfl rfl rfl) ?_
  refine GoL.st (r_aload_n (i := 2) dL_law_1049 rfl rfl rfl) ?_
  refine gl_arg (i := i) (j := 1) dL_law_1050 dL_law_1051 dL_law_1052 dL_law_1053 dL_law_1054 rfl rfl rfl rfl rfl rfl rfl rfl (by omega) hN ?_
  refine gl_arg (i := i) (j := 2) dL_law_1055 dL_law_1056 dL_law_1057 dL_law_1058 dL_law_1059 rfl rfl rfl rfl rfl rfl rfl rfl (by omega) hN ?_
  refine GoL.st (r_callV (M := M_law) (as := [.int (xs (i + 1)), .int (xs (i + 2))]) (r := some (.int r)) (kc1 := 88) (ks1 := 2098) (st := [.int r]) (st1 := [.int r, .int r]) e2 mv_X10_swap q1311 ⟨Nat.le_of_ble_eq_true rfl, Nat.le_of_ble_eq_true rfl⟩ (n0 := 0) (tag := 10) rfl (Nat.le_of_ble_eq_true rfl) (by decide) ⟨_, rfl, rfl⟩ ⟨Nat.le_of_ble_eq_true rfl, Nat.le_of_ble_eq_true rfl⟩ (Nat.le_of_ble_eq_true rfl) dL_law_1060 rfl rfl rfl rfl rfl) ?_
  exact GoL.br (r_icmp_eq (tgt := 1628) dL_law_1063 rfl (by decide)) (fun _ => K σ2 τ2 hI2) (fun c => absurd rfl c)
set_option maxRecDepth 20000 in
theorem lc_28 {i N : Nat} {xs : Nat → Int32} (hi : i + 6 ≤ N) (hN : N ≤ 3072) {σ : Sg} {τ : Sl} (hI : Inv σ) (K : ∀ σ τ, Inv σ → GoL N xs 88 2098 1628 (LL i) [] (mk σ τ)) : GoL N xs 88 2098 1068 (LL i) [] (mk σ τ) := by
  obtain ⟨r, σ1, τ1, σ2, τ2, e1, e2, hI2⟩ := ca_pull hI τ (xs (i + 1)) (xs (i + 2))
  refine GoL.st (r_aload_n (i := 1) dL_law_1068 rfl rfl rfl) ?_
  refine gl_arg (i := i) (j := 1) dL_law_1069 dL_law_1070 dL_law_1071 dL_law_1072 dL_law_1073 rfl rfl rfl rfl rfl rfl rfl rfl (by omega) hN ?_
  refine gl_arg (i := i) (j := 2) dL_law_1074 dL_law_1075 dL_law_1076 dL_law_1077 dL_law_1078 rfl rfl rfl rfl rfl rfl rfl rfl (by omega) hN ?_
  refine GoL.st (r_callV (M := M_law) (as := [.int (xs (i + 1)), .int (xs (i + 2))]) (r := some (.int r)) (kc1 := 88) (ks1 := 2098) (st := []) (st1 := [.int r]) e1 mv_X9_pull q789 ⟨Nat.le_of_ble_eq_true rfl, Nat.le_of_ble_eq_true rfl⟩ (n0 := 0) (tag := 9) rfl (Nat.le_of_ble_eq_true rfl) (by decide) ⟨_, rfl, rfl⟩ ⟨Nat.le_of_ble_eq_true rfl, Nat.le_of_ble_eq_true rfl⟩ (Nat.le_of_ble_eq_true rfl) dL_law_1079 rfl rfl rfl rfl rfl) ?_
  refine GoL.st (r_aload_n (i := 2) dL_law_1082 rfl rfl rfl) ?_
  refine gl_arg (i := i) (j := 1) dL_law_1083 dL_law_1084 dL_law_1085 dL_law_1086 dL_law_1087 rfl rfl rfl rfl rfl rfl rfl rfl (by omega) hN ?_
  refine gl_arg (i := i) (j := 2) dL_law_1088 dL_law_1089 dL_law_1090 dL_law_1091 dL_law_1092 rfl rfl rfl rfl rfl rfl rfl rfl (by omega) hN ?_
  refine GoL.st (r_callV (M := M_law) (as := [.int (xs (i + 1)), .int (xs (i + 2))]) (r := some (.int r)) (kc1 := 88) (ks1 := 2098) (st := [.int r]) (st1 := [.int r, .int r]) e2 mv_X10_pull q1315 ⟨Nat.le_of_ble_eq_true rfl, Nat.le_of_ble_eq_true rfl⟩ (n0 := 0) (tag := 10) rfl (Nat.le_of_ble_eq_true rfl) (by decide) ⟨_, rfl, rfl⟩ ⟨Nat.le_of_ble_eq_true rfl, Nat.le_of_ble_eq_true rfl⟩ (Nat.le_of_ble_eq_true rfl) dL_law_1093 rfl rfl rfl rfl rfl) ?_
  exact GoL.br (r_icmp_eq (tgt := 1628) dL_law_1096 rfl (by decide)) (fun _ => K σ2 τ2 hI2) (fun c => absurd rfl c)
set_option maxRecDepth 20000 in
theorem lc_29 {i N : Nat} {xs : Nat → Int32} (hi : i + 6 ≤ N) (hN : N ≤ 3072) {σ : Sg} {τ : Sl} (hI : Inv σ) (K : ∀ σ τ, Inv σ → GoL N xs 88 2098 1628 (LL i) [] (mk σ τ)) : GoL N xs 88 2098 1101 (LL i) [] (mk σ τ) := by
  obtain ⟨r, σ1, τ1, σ2, τ2, e1, e2, hI2⟩ := ca_luck hI τ (xs (i + 1)) (xs (i + 2)) (xs (i + 3)) (xs (i + 4)) (xs (i + 5))
  refine GoL.st (r_aload_n (i := 1) dL_law_1101 rfl rfl rfl) ?_
  refine gl_arg (i := i) (j := 1) dL_law_1102 dL_law_1103 dL_law_1104 dL_law_1105 dL_law_1106 rfl rfl rfl rfl rfl rfl rfl rfl (by omega) hN ?_
  refine gl_arg (i := i) (j := 2) dL_law_1107 dL_law_1108 dL_law_1109 dL_law_1110 dL_law_1111 rfl rfl rfl rfl rfl rfl rfl rfl (by omega) hN ?_
  refine gl_arg (i := i) (j := 3) dL_law_1112 dL_law_1113 dL_law_1114 dL_law_1115 dL_law_1116 rfl rfl rfl rfl rfl rfl rfl rfl (by omega) hN ?_
  refine gl_arg (i := i) (j := 4) dL_law_1117 dL_law_1118 dL_law_1119 dL_law_1120 dL_law_1121 rfl rfl rfl rfl rfl rfl rfl rfl (by omega) hN ?_
  refine gl_arg (i := i) (j := 5) dL_law_1122 dL_law_1123 dL_law_1124 dL_law_1125 dL_law_1126 rfl rfl rfl rfl rfl rfl rfl rfl (by omega) hN ?_
  refine GoL.st (r_callV (M := M_law) (as := [.int (xs (i + 1)), .int (xs (i + 2)), .int (xs (i + 3)), .int (xs (i + 4)), .int (xs (i + 5))]) (r := some (.long r)) (kc1 := 88) (ks1 := 2098) (st := []) (st1 := [.long r]) e1 mv_X9_luck q805 ⟨Nat.le_of_ble_eq_true rfl, Nat.le_of_ble_eq_true rfl⟩ (n0 := 0) (tag := 9) rfl (Nat.le_of_ble_eq_true rfl) (by decide) ⟨_, rfl, rfl⟩ ⟨Nat.le_of_ble_eq_true rfl, Nat.le_of_ble_eq_true rfl⟩ (Nat.le_of_ble_eq_true rfl) dL_law_1127 rfl rfl rfl rfl rfl) ?_
  refine GoL.st (r_aload_n (i := 2) dL_law_1130 rfl rfl rfl) ?_
  refine gl_arg (i := i) (j := 1) dL_law_1131 dL_law_1132 dL_law_1133 dL_law_1134 dL_law_1135 rfl rfl rfl rfl rfl rfl rfl rfl (by omega) hN ?_
  refine gl_arg (i := i) (j := 2) dL_law_1136 dL_law_1137 dL_law_1138 dL_law_1139 dL_law_1140 rfl rfl rfl rfl rfl rfl rfl rfl (by omega) hN ?_
  refine gl_arg (i := i) (j := 3) dL_law_1141 dL_law_1142 dL_law_1143 dL_law_1144 dL_law_1145 rfl rfl rfl rfl rfl rfl rfl rfl (by omega) hN ?_
  refine gl_arg (i := i) (j := 4) dL_law_1146 dL_law_1147 dL_law_1148 dL_law_1149 dL_law_1150 rfl rfl rfl rfl rfl rfl rfl rfl (by omega) hN ?_
  refine gl_arg (i := i) (j := 5) dL_law_1151 dL_law_1152 dL_law_1153 dL_law_1154 dL_law_1155 rfl rfl rfl rfl rfl rfl rfl rfl (by omega) hN ?_
  refine GoL.st (r_callV (M := M_law) (as := [.int (xs (i + 1)), .int (xs (i + 2)), .int (xs (i + 3)), .int (xs (i + 4)), .int (xs (i + 5))]) (r := some (.long r)) (kc1 := 88) (ks1 := 2098) (st := [.long r]) (st1 := [.long r, .long r]) e2 mv_X10_luck q1319 ⟨Nat.le_of_ble_eq_true rfl, Nat.le_of_ble_eq_true rfl⟩ (n0 := 0) (tag := 10) rfl (Nat.le_of_ble_eq_true rfl) (by decide) ⟨_, rfl, rfl⟩ ⟨Nat.le_of_ble_eq_true rfl, Nat.le_of_ble_eq_true rfl⟩ (Nat.le_of_ble_eq_true rfl) dL_law_1156 rfl rfl rfl rfl rfl) ?_
  refine GoL.st (r_lcmp dL_law_1159 rfl) ?_
  exact GoL.br (r_if_eq (tgt := 1628) dL_law_1160 rfl (by decide)) (fun _ => K σ2 τ2 hI2) (fun c => absurd (lg_refl r) c)
set_option maxRecDepth 20000 in
theorem lc_30 {i N : Nat} {xs : Nat → Int32} (hi : i + 6 ≤ N) (hN : N ≤ 3072) {σ : Sg} {τ : Sl} (hI : Inv σ) (K : ∀ σ τ, Inv σ → GoL N xs 88 2098 1628 (LL i) [] (mk σ τ)) : GoL N xs 88 2098 1165 (LL i) [] (mk σ τ) := by
  obtain ⟨r, σ1, τ1, σ2, τ2, e1, e2, hI2⟩ := ca_mean hI τ (xs (i + 1)) (xs (i + 2)) (xs (i + 3)) (xs (i + 4))
  refine GoL.st (r_aload_n (i := 1) dL_law_1165 rfl rfl rfl) ?_
  refine gl_arg (i := i) (j := 1) dL_law_1166 dL_law_1167 dL_law_1168 dL_law_1169 dL_law_1170 rfl rfl rfl rfl rfl rfl rfl rfl (by omega) hN ?_
  refine gl_arg (i := i) (j := 2) dL_law_1171 dL_law_1172 dL_law_1173 dL_law_1174 dL_law_1175 rfl rfl rfl rfl rfl rfl rfl rfl (by omega) hN ?_
  refine gl_arg (i := i) (j := 3) dL_law_1176 dL_law_1177 dL_law_1178 dL_law_1179 dL_law_1180 rfl rfl rfl rfl rfl rfl rfl rfl (by omega) hN ?_
  refine gl_arg (i := i) (j := 4) dL_law_1181 dL_law_1182 dL_law_1183 dL_law_1184 dL_law_1185 rfl rfl rfl rfl rfl rfl rfl rfl (by omega) hN ?_
  refine GoL.st (r_callV (M := M_law) (as := [.int (xs (i + 1)), .int (xs (i + 2)), .int (xs (i + 3)), .int (xs (i + 4))]) (r := some (.long r)) (kc1 := 88) (ks1 := 2098) (st := []) (st1 := [.long r]) e1 mv_X9_mean q845 ⟨Nat.le_of_ble_eq_true rfl, Nat.le_of_ble_eq_true rfl⟩ (n0 := 0) (tag := 9) rfl (Nat.le_of_ble_eq_true rfl) (by decide) ⟨_, rfl, rfl⟩ ⟨Nat.le_of_ble_eq_true rfl, Nat.le_of_ble_eq_true rfl⟩ (Nat.le_of_ble_eq_true rfl) dL_law_1186 rfl rfl rfl rfl rfl) ?_
  refine GoL.st (r_aload_n (i := 2) dL_law_1189 rfl rfl rfl) ?_
  refine gl_arg (i := i) (j := 1) dL_law_1190 dL_law_1191 dL_law_1192 dL_law_1193 dL_law_1194 rfl rfl rfl rfl rfl rfl rfl rfl (by omega) hN ?_
  refine gl_arg (i := i) (j := 2) dL_law_1195 dL_law_1196 dL_law_1197 dL_law_1198 dL_law_1199 rfl rfl rfl rfl rfl rfl rfl rfl (by omega) hN ?_
  refine gl_arg (i := i) (j := 3) dL_law_1200 dL_law_1201 dL_law_1202 dL_law_1203 dL_law_1204 rfl rfl rfl rfl rfl rfl rfl rfl (by omega) hN ?_
  refine gl_arg (i := i) (j := 4) dL_law_1205 dL_law_1206 dL_law_1207 dL_law_1208 dL_law_1209 rfl rfl rfl rfl rfl rfl rfl rfl (by omega) hN ?_
  refine GoL.st (r_callV (M := M_law) (as := [.int (xs (i + 1)), .int (xs (i + 2)), .int (xs (i + 3)), .int (xs (i + 4))]) (r := some (.long r)) (kc1 := 88) (ks1 := 2098) (st := [.long r]) (st1 := [.long r, .long r]) e2 mv_X10_mean q1333 ⟨Nat.le_of_ble_eq_true rfl, Nat.le_of_ble_eq_true rfl⟩ (n0 := 0) (tag := 10) rfl (Nat.le_of_ble_eq_true rfl) (by decide) ⟨_, rfl, rfl⟩ ⟨Nat.le_of_ble_eq_true rfl, Nat.le_of_ble_eq_true rfl⟩ (Nat.le_of_ble_eq_true rfl) dL_law_1210 rfl rfl rfl rfl rfl) ?_
  refine GoL.st (r_lcmp dL_law_1213 rfl) ?_
  exact GoL.br (r_if_eq (tgt := 1628) dL_law_1214 rfl (by decide)) (fun _ => K σ2 τ2 hI2) (fun c => absurd (lg_refl r) c)
set_option maxRecDepth 20000 in
theorem lc_31 {i N : Nat} {xs : Nat → Int32} (hi : i + 6 ≤ N) (hN : N ≤ 3072) {σ : Sg} {τ : Sl} (hI : Inv σ) (K : ∀ σ τ, Inv σ → GoL N xs 88 2098 1628 (LL i) [] (mk σ τ)) : GoL N xs 88 2098 1219 (LL i) [] (mk σ τ) := by
  obtain ⟨r, σ1, τ1, σ2, τ2, e1, e2, hI2⟩ := ca_see hI τ (xs (i + 1)) (xs (i + 2)) (xs (i + 3))
  refine GoL.st (r_aload_n (i := 1) dL_law_1219 rfl rfl rfl) ?_
  refine gl_arg (i := i) (j := 1) dL_law_1220 dL_law_1221 dL_law_1222 dL_law_1223 dL_law_1224 rfl rfl rfl rfl rfl rfl rfl rfl (by omega) hN ?_
  refine gl_arg (i := i) (j := 2) dL_law_1225 dL_law_1226 dL_law_1227 dL_law_1228 dL_law_1229 rfl rfl rfl rfl rfl rfl rfl rfl (by omega) hN ?_
  refine gl_arg (i := i) (j := 3) dL_law_1230 dL_law_1231 dL_law_1232 dL_law_1233 dL_law_1234 rfl rfl rfl rfl rfl rfl rfl rfl (by omega) hN ?_
  refine GoL.st (r_callV (M := M_law) (as := [.int (xs (i + 1)), .int (xs (i + 2)), .int (xs (i + 3))]) (r := some (.int r)) (kc1 := 88) (ks1 := 2098) (st := []) (st1 := [.int r]) e1 mv_X9_see q849 ⟨Nat.le_of_ble_eq_true rfl, Nat.le_of_ble_eq_true rfl⟩ (n0 := 0) (tag := 9) rfl (Nat.le_of_ble_eq_true rfl) (by decide) ⟨_, rfl, rfl⟩ ⟨Nat.le_of_ble_eq_true rfl, Nat.le_of_ble_eq_true rfl⟩ (Nat.le_of_ble_eq_true rfl) dL_law_1235 rfl rfl rfl rfl rfl) ?_
  refine GoL.st (r_aload_n (i := 2) dL_law_1238 rfl rfl rfl) ?_
  refine gl_arg (i := i) (j := 1) dL_law_1239 dL_law_1240 dL_law_1241 dL_law_1242 dL_law_1243 rfl rfl rfl rfl rfl rfl rfl rfl (by omega) hN ?_
  refine gl_arg (i := i) (j := 2) dL_law_1244 dL_law_1245 dL_law_1246 dL_law_1247 dL_law_1248 rfl rfl rfl rfl rfl rfl rfl rfl (by omega) hN ?_
  refine gl_arg (i := i) (j := 3) dL_law_1249 dL_law_1250 dL_law_1251 dL_law_1252 dL_law_1253 rfl rfl rfl rfl rfl rfl rfl rfl (by omega) hN ?_
  refine GoL.st (r_callV (M := M_law) (as := [.int (xs (i + 1)), .int (xs (i + 2)), .int (xs (i + 3))]) (r := some (.int r)) (kc1 := 88) (ks1 := 2098) (st := [.int r]) (st1 := [.int r, .int r]) e2 mv_X10_see q1337 ⟨Nat.le_of_ble_eq_true rfl, Nat.le_of_ble_eq_true rfl⟩ (n0 := 0) (tag := 10) rfl (Nat.le_of_ble_eq_true rfl) (by decide) ⟨_, rfl, rfl⟩ ⟨Nat.le_of_ble_eq_true rfl, Nat.le_of_ble_eq_true rfl⟩ (Nat.le_of_ble_eq_true rfl) dL_law_1254 rfl rfl rfl rfl rfl) ?_
  exact GoL.br (r_icmp_eq (tgt := 1628) dL_law_1257 rfl (by decide)) (fun _ => K σ2 τ2 hI2) (fun c => absurd rfl c)
set_option maxRecDepth 20000 in
theorem lc_32 {i N : Nat} {xs : Nat → Int32} (hi : i + 6 ≤ N) (hN : N ≤ 3072) {σ : Sg} {τ : Sl} (hI : Inv σ) (K : ∀ σ τ, Inv σ → GoL N xs 88 2098 1628 (LL i) [] (mk σ τ)) : GoL N xs 88 2098 1262 (LL i) [] (mk σ τ) := by
  obtain ⟨r, σ1, τ1, σ2, τ2, e1, e2, hI2⟩ := ca_forget hI τ (xs (i + 1))
  refine GoL.st (r_aload_n (i := 1) dL_law_1262 rfl rfl rfl) ?_
  refine gl_arg (i := i) (j := 1) dL_law_1263 dL_law_1264 dL_law_1265 dL_law_1266 dL_law_1267 rfl rfl rfl rfl rfl rfl rfl rfl (by omega) hN ?_
  refine GoL.st (r_callV (M := M_law) (as := [.int (xs (i + 1))]) (r := some (.int r)) (kc1 := 88) (ks1 := 2098) (st := []) (st1 := [.int r]) e1 mv_X9_forget q857 ⟨Nat.le_of_ble_eq_true rfl, Nat.le_of_ble_eq_true rfl⟩ (n0 := 0) (tag := 9) rfl (Nat.le_of_ble_eq_true rfl) (by decide) ⟨_, rfl, rfl⟩ ⟨Nat.le_of_ble_eq_true rfl, Nat.le_of_ble_eq_true rfl⟩ (Nat.le_of_ble_eq_true rfl) dL_law_1268 rfl rfl rfl rfl rfl) ?_
  refine GoL.st (r_aload_n (i := 2) dL_law_1271 rfl rfl rfl) ?_
  refine gl_arg (i := i) (j := 1) dL_law_1272 dL_law_1273 dL_law_1274 dL_law_1275 dL_law_1276 rfl rfl rfl rfl rfl rfl rfl rfl (by omega) hN ?_
  refine GoL.st (r_callV (M := M_law) (as := [.int (xs (i + 1))]) (r := some (.int r)) (kc1 := 88) (ks1 := 2098) (st := [.int r]) (st1 := [.int r, .int r]) e2 mv_X10_forget q1341 ⟨Nat.le_of_ble_eq_true rfl, Nat.le_of_ble_eq_true rfl⟩ (n0 := 0) (tag := 10) rfl (Nat.le_of_ble_eq_true rfl) (by decide) ⟨_, rfl, rfl⟩ ⟨Nat.le_of_ble_eq_true rfl, Nat.le_of_ble_eq_true rfl⟩ (Nat.le_of_ble_eq_true rfl) dL_law_1277 rfl rfl rfl rfl rfl) ?_
  exact GoL.br (r_icmp_eq (tgt := 1628) dL_law_1280 rfl (by decide)) (fun _ => K σ2 τ2 hI2) (fun c => absurd rfl c)
set_option maxRecDepth 20000 in
theorem lc_33 {i N : Nat} {xs : Nat → Int32} (hi : i + 6 ≤ N) (hN : N ≤ 3072) {σ : Sg} {τ : Sl} (hI : Inv σ) (K : ∀ σ τ, Inv σ → GoL N xs 88 2098 1628 (LL i) [] (mk σ τ)) : GoL N xs 88 2098 1285 (LL i) [] (mk σ τ) := by
  obtain ⟨r, σ1, τ1, σ2, τ2, e1, e2, hI2⟩ := ca_kinds hI τ (xs (i + 1))
  refine GoL.st (r_aload_n (i := 1) dL_law_1285 rfl rfl rfl) ?_
  refine gl_arg (i := i) (j := 1) dL_law_1286 dL_law_1287 dL_law_1288 dL_law_1289 dL_law_1290 rfl rfl rfl rfl rfl rfl rfl rfl (by omega) hN ?_
  refine GoL.st (r_callV (M := M_law) (as := [.int (xs (i + 1))]) (r := some (.int r)) (kc1 := 88) (ks1 := 2098) (st := []) (st1 := [.int r]) e1 mv_X9_kinds q861 ⟨Nat.le_of_ble_eq_true rfl, Nat.le_of_ble_eq_true rfl⟩ (n0 := 0) (tag := 9) rfl (Nat.le_of_ble_eq_true rfl) (by decide) ⟨_, rfl, rfl⟩ ⟨Nat.le_of_ble_eq_true rfl, Nat.le_of_ble_eq_true rfl⟩ (Nat.le_of_ble_eq_true rfl) dL_law_1291 rfl rfl rfl rfl rfl) ?_
  refine GoL.st (r_aload_n (i := 2) dL_law_1294 rfl rfl rfl) ?_
  refine gl_arg (i := i) (j := 1) dL_law_1295 dL_law_1296 dL_law_1297 dL_law_1298 dL_law_1299 rfl rfl rfl rfl rfl rfl rfl rfl (by omega) hN ?_
  refine GoL.st (r_callV (M := M_law) (as := [.int (xs (i + 1))]) (r := some (.int r)) (kc1 := 88) (ks1 := 2098) (st := [.int r]) (st1 := [.int r, .int r]) e2 mv_X10_kinds q1345 ⟨Nat.le_of_ble_eq_true rfl, Nat.le_of_ble_eq_true rfl⟩ (n0 := 0) (tag := 10) rfl (Nat.le_of_ble_eq_true rfl) (by decide) ⟨_, rfl, rfl⟩ ⟨Nat.le_of_ble_eq_true rfl, Nat.le_of_ble_eq_true rfl⟩ (Nat.le_of_ble_eq_true rfl) dL_law_1300 rfl rfl rfl rfl rfl) ?_
  exact GoL.br (r_icmp_eq (tgt := 1628) dL_law_1303 rfl (by decide)) (fun _ => K σ2 τ2 hI2) (fun c => absurd rfl c)
set_option maxRecDepth 20000 in
theorem lc_34 {i N : Nat} {xs : Nat → Int32} (hi : i + 6 ≤ N) (hN : N ≤ 3072) {σ : Sg} {τ : Sl} (hI : Inv σ) (K : ∀ σ τ, Inv σ → GoL N xs 88 2098 1628 (LL i) [] (mk σ τ)) : GoL N xs 88 2098 1308 (LL i) [] (mk σ τ) := by
  obtain ⟨r, σ1, τ1, σ2, τ2, e1, e2, hI2⟩ := ca_speeds hI τ (xs (i + 1))
  refine GoL.st (r_aload_n (i := 1) dL_law_1308 rfl rfl rfl) ?_
  refine gl_arg (i := i) (j := 1) dL_law_1309 dL_law_1310 dL_law_1311 dL_law_1312 dL_law_1313 rfl rfl rfl rfl rfl rfl rfl rfl (by omega) hN ?_
  refine GoL.st (r_callV (M := M_law) (as := [.int (xs (i + 1))]) (r := some (.int r)) (kc1 := 88) (ks1 := 2098) (st := []) (st1 := [.int r]) e1 mv_X9_speeds q875 ⟨Nat.le_of_ble_eq_true rfl, Nat.le_of_ble_eq_true rfl⟩ (n0 := 0) (tag := 9) rfl (Nat.le_of_ble_eq_true rfl) (by decide) ⟨_, rfl, rfl⟩ ⟨Nat.le_of_ble_eq_true rfl, Nat.le_of_ble_eq_true rfl⟩ (Nat.le_of_ble_eq_true rfl) dL_law_1314 rfl rfl rfl rfl rfl) ?_
  refine GoL.st (r_aload_n (i := 2) dL_law_1317 rfl rfl rfl) ?_
  refine gl_arg (i := i) (j := 1) dL_law_1318 dL_law_1319 dL_law_1320 dL_law_1321 dL_law_1322 rfl rfl rfl rfl rfl rfl rfl rfl (by omega) hN ?_
  refine GoL.st (r_callV (M := M_law) (as := [.int (xs (i + 1))]) (r := some (.int r)) (kc1 := 88) (ks1 := 2098) (st := [.int r]) (st1 := [.int r, .int r]) e2 mv_X10_speeds q1353 ⟨Nat.le_of_ble_eq_true rfl, Nat.le_of_ble_eq_true rfl⟩ (n0 := 0) (tag := 10) rfl (Nat.le_of_ble_eq_true rfl) (by decide) ⟨_, rfl, rfl⟩ ⟨Nat.le_of_ble_eq_true rfl, Nat.le_of_ble_eq_true rfl⟩ (Nat.le_of_ble_eq_true rfl) dL_law_1323 rfl rfl rfl rfl rfl) ?_
  exact GoL.br (r_icmp_eq (tgt := 1628) dL_law_1326 rfl (by decide)) (fun _ => K σ2 τ2 hI2) (fun c => absurd rfl c)
set_option maxRecDepth 20000 in
theorem lc_35 {i N : Nat} {xs : Nat → Int32} (hi : i + 6 ≤ N) (hN : N ≤ 3072) {σ : Sg} {τ : Sl} (hI : Inv σ) (K : ∀ σ τ, Inv σ → GoL N xs 88 2098 1628 (LL i) [] (mk σ τ)) : GoL N xs 88 2098 1331 (LL i) [] (mk σ τ) := by
  obtain ⟨r, σ1, τ1, σ2, τ2, e1, e2, hI2⟩ := ca_ask hI τ (xs (i + 1)) (xs (i + 2))
  refine GoL.st (r_aload_n (i := 1) dL_law_1331 rfl rfl rfl) ?_
  refine gl_arg (i := i) (j := 1) dL_law_1332 dL_law_1333 dL_law_1334 dL_law_1335 dL_law_1336 rfl rfl rfl rfl rfl rfl rfl rfl (by omega) hN ?_
  refine gl_arg (i := i) (j := 2) dL_law_1337 dL_law_1338 dL_law_1339 dL_law_1340 dL_law_1341 rfl rfl rfl rfl rfl rfl rfl rfl (by omega) hN ?_
  refine GoL.st (r_callV (M := M_law) (as := [.int (xs (i + 1)), .int (xs (i + 2))]) (r := some (.int r)) (kc1 := 88) (ks1 := 2098) (st := []) (st1 := [.int r]) e1 mv_X9_ask q883 ⟨Nat.le_of_ble_eq_true rfl, Nat.le_of_ble_eq_true rfl⟩ (n0 := 0) (tag := 9) rfl (Nat.le_of_ble_eq_true rfl) (by decide) ⟨_, rfl, rfl⟩ ⟨Nat.le_of_ble_eq_true rfl, Nat.le_of_ble_eq_true rfl⟩ (Nat.le_of_ble_eq_true rfl) dL_law_1342 rfl rfl rfl rfl rfl) ?_
  refine GoL.st (r_aload_n (i := 2) dL_law_1345 rfl rfl rfl) ?_
  refine gl_arg (i := i) (j := 1) dL_law_1346 dL_law_1347 dL_law_1348 dL_law_1349 dL_law_1350 rfl rfl rfl rfl rfl rfl rfl rfl (by omega) hN ?_
  refine gl_arg (i := i) (j := 2) dL_law_1351 dL_law_1352 dL_law_1353 dL_law_1354 dL_law_1355 rfl rfl rfl rfl rfl rfl rfl rfl (by omega) hN ?_
  refine GoL.st (r_callV (M := M_law) (as := [.int (xs (i + 1)), .int (xs (i + 2))]) (r := some (.int r)) (kc1 := 88) (ks1 := 2098) (st := [.int r]) (st1 := [.int r, .int r]) e2 mv_X10_ask q1361 ⟨Nat.le_of_ble_eq_true rfl, Nat.le_of_ble_eq_true rfl⟩ (n0 := 0) (tag := 10) rfl (Nat.le_of_ble_eq_true rfl) (by decide) ⟨_, rfl, rfl⟩ ⟨Nat.le_of_ble_eq_true rfl, Nat.le_of_ble_eq_true rfl⟩ (Nat.le_of_ble_eq_true rfl) dL_law_1356 rfl rfl rfl rfl rfl) ?_
  exact GoL.br (r_icmp_eq (tgt := 1628) dL_law_1359 rfl (by decide)) (fun _ => K σ2 τ2 hI2) (fun c => absurd rfl c)
set_option maxRecDepth 20000 in
theorem lc_36 {i N : Nat} {xs : Nat → Int32} (hi : i + 6 ≤ N) (hN : N ≤ 3072) {σ : Sg} {τ : Sl} (hI : Inv σ) (K : ∀ σ τ, Inv σ → GoL N xs 88 2098 1628 (LL i) [] (mk σ τ)) : GoL N xs 88 2098 1364 (LL i) [] (mk σ τ) := by
  obtain ⟨r, σ1, τ1, σ2, τ2, e1, e2, hI2⟩ := ca_drift hI τ (xs (i + 1)) (xs (i + 2)) (xs (i + 3))
  refine GoL.st (r_aload_n (i := 1) dL_law_1364 rfl rfl rfl) ?_
  refine gl_arg (i := i) (j := 1) dL_law_1365 dL_law_1366 dL_law_1367 dL_law_1368 dL_law_1369 rfl rfl rfl rfl rfl rfl rfl rfl (by omega) hN ?_
  refine gl_arg (i := i) (j := 2) dL_law_1370 dL_law_1371 dL_law_1372 dL_law_1373 dL_law_1374 rfl rfl rfl rfl rfl rfl rfl rfl (by omega) hN ?_
  refine gl_arg (i := i) (j := 3) dL_law_1375 dL_law_1376 dL_law_1377 dL_law_1378 dL_law_1379 rfl rfl rfl rfl rfl rfl rfl rfl (by omega) hN ?_
  refine GoL.st (r_callV (M := M_law) (as := [.int (xs (i + 1)), .int (xs (i + 2)), .int (xs (i + 3))]) (r := some (.int r)) (kc1 := 88) (ks1 := 2098) (st := []) (st1 := [.int r]) e1 mv_X9_drift q898 ⟨Nat.le_of_ble_eq_true rfl, Nat.le_of_ble_eq_true rfl⟩ (n0 := 0) (tag := 9) rfl (Nat.le_of_ble_eq_true rfl) (by decide) ⟨_, rfl, rfl⟩ ⟨Nat.le_of_ble_eq_true rfl, Nat.le_of_ble_eq_true rfl⟩ (Nat.le_of_ble_eq_true rfl) dL_law_1380 rfl rfl rfl rfl rfl) ?_
  refine GoL.st (r_aload_n (i := 2) dL_law_1383 rfl rfl rfl) ?_
  refine gl_arg (i := i) (j := 1) dL_law_1384 dL_law_1385 dL_law_1386 dL_law_1387 dL_law_1388 rfl rfl rfl rfl rfl rfl rfl rfl (by omega) hN ?_
  refine gl_arg (i := i) (j := 2) dL_law_1389 dL_law_1390 dL_law_1391 dL_law_1392 dL_law_1393 rfl rfl rfl rfl rfl rfl rfl rfl (by omega) hN ?_
  refine gl_arg (i := i) (j := 3) dL_law_1394 dL_law_1395 dL_law_1396 dL_law_1397 dL_law_1398 rfl rfl rfl rfl rfl rfl rfl rfl (by omega) hN ?_
  refine GoL.st (r_callV (M := M_law) (as := [.int (xs (i + 1)), .int (xs (i + 2)), .int (xs (i + 3))]) (r := some (.int r)) (kc1 := 88) (ks1 := 2098) (st := [.int r]) (st1 := [.int r, .int r]) e2 mv_X10_drift q1365 ⟨Nat.le_of_ble_eq_true rfl, Nat.le_of_ble_eq_true rfl⟩ (n0 := 0) (tag := 10) rfl (Nat.le_of_ble_eq_true rfl) (by decide) ⟨_, rfl, rfl⟩ ⟨Nat.le_of_ble_eq_true rfl, Nat.le_of_ble_eq_true rfl⟩ (Nat.le_of_ble_eq_true rfl) dL_law_1399 rfl rfl rfl rfl rfl) ?_
  exact GoL.br (r_icmp_eq (tgt := 1628) dL_law_1402 rfl (by decide)) (fun _ => K σ2 τ2 hI2) (fun c => absurd rfl c)
set_option maxRecDepth 20000 in
theorem lc_37 {i N : Nat} {xs : Nat → Int32} (hi : i + 6 ≤ N) (hN : N ≤ 3072) {σ : Sg} {τ : Sl} (hI : Inv σ) (K : ∀ σ τ, Inv σ → GoL N xs 88 2098 1628 (LL i) [] (mk σ τ)) : GoL N xs 88 2098 1407 (LL i) [] (mk σ τ) := by
  obtain ⟨r, σ1, τ1, σ2, τ2, e1, e2, hI2⟩ := ca_keep hI τ (xs (i + 1))
  refine GoL.st (r_aload_n (i := 1) dL_law_1407 rfl rfl rfl) ?_
  refine gl_arg (i := i) (j := 1) dL_law_1408 dL_law_1409 dL_law_1410 dL_law_1411 dL_law_1412 rfl rfl rfl rfl rfl rfl rfl rfl (by omega) hN ?_
  refine GoL.st (r_callV (M := M_law) (as := [.int (xs (i + 1))]) (r := some (.int r)) (kc1 := 88) (ks1 := 2098) (st := []) (st1 := [.int r]) e1 mv_X9_keep q907 ⟨Nat.le_of_ble_eq_true rfl, Nat.le_of_ble_eq_true rfl⟩ (n0 := 0) (tag := 9) rfl (Nat.le_of_ble_eq_true rfl) (by decide) ⟨_, rfl, rfl⟩ ⟨Nat.le_of_ble_eq_true rfl, Nat.le_of_ble_eq_true rfl⟩ (Nat.le_of_ble_eq_true rfl) dL_law_1413 rfl rfl rfl rfl rfl) ?_
  refine GoL.st (r_aload_n (i := 2) dL_law_1416 rfl rfl rfl) ?_
  refine gl_arg (i := i) (j := 1) dL_law_1417 dL_law_1418 dL_law_1419 dL_law_1420 dL_law_1421 rfl rfl rfl rfl rfl rfl rfl rfl (by omega) hN ?_
  refine GoL.st (r_callV (M := M_law) (as := [.int (xs (i + 1))]) (r := some (.int r)) (kc1 := 88) (ks1 := 2098) (st := [.int r]) (st1 := [.int r, .int r]) e2 mv_X10_keep q1371 ⟨Nat.le_of_ble_eq_true rfl, Nat.le_of_ble_eq_true rfl⟩ (n0 := 0) (tag := 10) rfl (Nat.le_of_ble_eq_true rfl) (by decide) ⟨_, rfl, rfl⟩ ⟨Nat.le_of_ble_eq_true rfl, Nat.le_of_ble_eq_true rfl⟩ (Nat.le_of_ble_eq_true rfl) dL_law_1422 rfl rfl rfl rfl rfl) ?_
  exact GoL.br (r_icmp_eq (tgt := 1628) dL_law_1425 rfl (by decide)) (fun _ => K σ2 τ2 hI2) (fun c => absurd rfl c)
set_option maxRecDepth 20000 in
theorem lc_38 {i N : Nat} {xs : Nat → Int32} (hi : i + 6 ≤ N) (hN : N ≤ 3072) {σ : Sg} {τ : Sl} (hI : Inv σ) (K : ∀ σ τ, Inv σ → GoL N xs 88 2098 1628 (LL i) [] (mk σ τ)) : GoL N xs 88 2098 1430 (LL i) [] (mk σ τ) := by
  obtain ⟨r, σ1, τ1, σ2, τ2, e1, e2, hI2⟩ := ca_back hI τ (xs (i + 1))
  refine GoL.st (r_aload_n (i := 1) dL_law_1430 rfl rfl rfl) ?_
  refine gl_arg (i := i) (j := 1) dL_law_1431 dL_law_1432 dL_law_1433 dL_law_1434 dL_law_1435 rfl rfl rfl rfl rfl rfl rfl rfl (by omega) hN ?_
  refine GoL.st (r_callV (M := M_law) (as := [.int (xs (i + 1))]) (r := some (.int r)) (kc1 := 88) (ks1 := 2098) (st := []) (st1 := [.int r]) e1 mv_X9_back q914 ⟨Nat.le_of_ble_eq_true rfl, Nat.le_of_ble_eq_true rfl⟩ (n0 := 0) (tag := 9) rfl (Nat.le_of_ble_eq_true rfl) (by decide) ⟨_, rfl, rfl⟩ ⟨Nat.le_of_ble_eq_true rfl, Nat.le_of_ble_eq_true rfl⟩ (Nat.le_of_ble_eq_true rfl) dL_law_1436 rfl rfl rfl rfl rfl) ?_
  refine GoL.st (r_aload_n (i := 2) dL_law_1439 rfl rfl rfl) ?_
  refine gl_arg (i := i) (j := 1) dL_law_1440 dL_law_1441 dL_law_1442 dL_law_1443 dL_law_1444 rfl rfl rfl rfl rfl rfl rfl rfl (by omega) hN ?_
  refine GoL.st (r_callV (M := M_law) (as := [.int (xs (i + 1))]) (r := some (.int r)) (kc1 := 88) (ks1 := 2098) (st := [.int r]) (st1 := [.int r, .int r]) e2 mv_X10_back q1375 ⟨Nat.le_of_ble_eq_true rfl, Nat.le_of_ble_eq_true rfl⟩ (n0 := 0) (tag := 10) rfl (Nat.le_of_ble_eq_true rfl) (by decide) ⟨_, rfl, rfl⟩ ⟨Nat.le_of_ble_eq_true rfl, Nat.le_of_ble_eq_true rfl⟩ (Nat.le_of_ble_eq_true rfl) dL_law_1445 rfl rfl rfl rfl rfl) ?_
  exact GoL.br (r_icmp_eq (tgt := 1628) dL_law_1448 rfl (by decide)) (fun _ => K σ2 τ2 hI2) (fun c => absurd rfl c)
set_option maxRecDepth 20000 in
theorem lc_39 {i N : Nat} {xs : Nat → Int32} (hi : i + 6 ≤ N) (hN : N ≤ 3072) {σ : Sg} {τ : Sl} (hI : Inv σ) (K : ∀ σ τ, Inv σ → GoL N xs 88 2098 1628 (LL i) [] (mk σ τ)) : GoL N xs 88 2098 1453 (LL i) [] (mk σ τ) := by
  obtain ⟨r, σ1, τ1, σ2, τ2, e1, e2, hI2⟩ := ca_sheet hI τ (xs (i + 1)) (xs (i + 2)) (xs (i + 3))
  refine GoL.st (r_aload_n (i := 1) dL_law_1453 rfl rfl rfl) ?_
  refine gl_arg (i := i) (j := 1) dL_law_1454 dL_law_1455 dL_law_1456 dL_law_1457 dL_law_1458 rfl rfl rfl rfl rfl rfl rfl rfl (by omega) hN ?_
  refine gl_arg (i := i) (j := 2) dL_law_1459 dL_law_1460 dL_law_1461 dL_law_1462 dL_law_1463 rfl rfl rfl rfl rfl rfl rfl rfl (by omega) hN ?_
  refine gl_arg (i := i) (j := 3) dL_law_1464 dL_law_1465 dL_law_1466 dL_law_1467 dL_law_1468 rfl rfl rfl rfl rfl rfl rfl rfl (by omega) hN ?_
  refine GoL.st (r_callV (M := M_law) (as := [.int (xs (i + 1)), .int (xs (i + 2)), .int (xs (i + 3))]) (r := some (.int r)) (kc1 := 88) (ks1 := 2098) (st := []) (st1 := [.int r]) e1 mv_X9_sheet q918 ⟨Nat.le_of_ble_eq_true rfl, Nat.le_of_ble_eq_true rfl⟩ (n0 := 0) (tag := 9) rfl (Nat.le_of_ble_eq_true rfl) (by decide) ⟨_, rfl, rfl⟩ ⟨Nat.le_of_ble_eq_true rfl, Nat.le_of_ble_eq_true rfl⟩ (Nat.le_of_ble_eq_true rfl) dL_law_1469 rfl rfl rfl rfl rfl) ?_
  refine GoL.st (r_aload_n (i := 2) dL_law_1472 rfl rfl rfl) ?_
  refine gl_arg (i := i) (j := 1) dL_law_1473 dL_law_1474 dL_law_1475 dL_law_1476 dL_law_1477 rfl rfl rfl rfl rfl rfl rfl rfl (by omega) hN ?_
  refine gl_arg (i := i) (j := 2) dL_law_1478 dL_law_1479 dL_law_1480 dL_law_1481 dL_law_1482 rfl rfl rfl rfl rfl rfl rfl rfl (by omega) hN ?_
  refine gl_arg (i := i) (j := 3) dL_law_1483 dL_law_1484 dL_law_1485 dL_law_1486 dL_law_1487 rfl rfl rfl rfl rfl rfl rfl rfl (by omega) hN ?_
  refine GoL.st (r_callV (M := M_law) (as := [.int (xs (i + 1)), .int (xs (i + 2)), .int (xs (i + 3))]) (r := some (.int r)) (kc1 := 88) (ks1 := 2098) (st := [.int r]) (st1 := [.int r, .int r]) e2 mv_X10_sheet q1379 ⟨Nat.le_of_ble_eq_true rfl, Nat.le_of_ble_eq_true rfl⟩ (n0 := 0) (tag := 10) rfl (Nat.le_of_ble_eq_true rfl) (by decide) ⟨_, rfl, rfl⟩ ⟨Nat.le_of_ble_eq_true rfl, Nat.le_of_ble_eq_true rfl⟩ (Nat.le_of_ble_eq_true rfl) dL_law_1488 rfl rfl rfl rfl rfl) ?_
  exact GoL.br (r_icmp_eq (tgt := 1628) dL_law_1491 rfl (by decide)) (fun _ => K σ2 τ2 hI2) (fun c => absurd rfl c)
set_option maxRecDepth 20000 in
theorem lc_40 {i N : Nat} {xs : Nat → Int32} (hi : i + 6 ≤ N) (hN : N ≤ 3072) {σ : Sg} {τ : Sl} (hI : Inv σ) (K : ∀ σ τ, Inv σ → GoL N xs 88 2098 1628 (LL i) [] (mk σ τ)) : GoL N xs 88 2098 1496 (LL i) [] (mk σ τ) := by
  obtain ⟨r, σ1, τ1, σ2, τ2, e1, e2, hI2⟩ := ca_write hI τ (xs (i + 1)) (xs (i + 2)) (xs (i + 3))
  refine GoL.st (r_aload_n (i := 1) dL_law_1496 rfl rfl rfl) ?_
  refine gl_arg (i := i) (j := 1) dL_law_1497 dL_law_1498 dL_law_1499 dL_law_1500 dL_law_1501 rfl rfl rfl rfl rfl rfl rfl rfl (by omega) hN ?_
  refine gl_arg (i := i) (j := 2) dL_law_1502 dL_law_1503 dL_law_1504 dL_law_1505 dL_law_1506 rfl rfl rfl rfl rfl rfl rfl rfl (by omega) hN ?_
  refine gl_arg (i := i) (j := 3) dL_law_1507 dL_law_1508 dL_law_1509 dL_law_1510 dL_law_1511 rfl rfl rfl rfl rfl rfl rfl rfl (by omega) hN ?_
  refine GoL.st (r_callV (M := M_law) (as := [.int (xs (i + 1)), .int (xs (i + 2)), .int (xs (i + 3))]) (r := some (.int r)) (kc1 := 88) (ks1 := 2098) (st := []) (st1 := [.int r]) e1 mv_X9_write q935 ⟨Nat.le_of_ble_eq_true rfl, Nat.le_of_ble_eq_true rfl⟩ (n0 := 0) (tag := 9) rfl (Nat.le_of_ble_eq_true rfl) (by decide) ⟨_, rfl, rfl⟩ ⟨Nat.le_of_ble_eq_true rfl, Nat.le_of_ble_eq_true rfl⟩ (Nat.le_of_ble_eq_true rfl) dL_law_1512 rfl rfl rfl rfl rfl) ?_
  refine GoL.st (r_aload_n (i := 2) dL_law_1515 rfl rfl rfl) ?_
  refine gl_arg (i := i) (j := 1) dL_law_1516 dL_law_1517 dL_law_1518 dL_law_1519 dL_law_1520 rfl rfl rfl rfl rfl rfl rfl rfl (by omega) hN ?_
  refine gl_arg (i := i) (j := 2) dL_law_1521 dL_law_1522 dL_law_1523 dL_law_1524 dL_law_1525 rfl rfl rfl rfl rfl rfl rfl rfl (by omega) hN ?_
  refine gl_arg (i := i) (j := 3) dL_law_1526 dL_law_1527 dL_law_1528 dL_law_1529 dL_law_1530 rfl rfl rfl rfl rfl rfl rfl rfl (by omega) hN ?_
  refine GoL.st (r_callV (M := M_law) (as := [.int (xs (i + 1)), .int (xs (i + 2)), .int (xs (i + 3))]) (r := some (.int r)) (kc1 := 88) (ks1 := 2098) (st := [.int r]) (st1 := [.int r, .int r]) e2 mv_X10_write q1383 ⟨Nat.le_of_ble_eq_true rfl, Nat.le_of_ble_eq_true rfl⟩ (n0 := 0) (tag := 10) rfl (Nat.le_of_ble_eq_true rfl) (by decide) ⟨_, rfl, rfl⟩ ⟨Nat.le_of_ble_eq_true rfl, Nat.le_of_ble_eq_true rfl⟩ (Nat.le_of_ble_eq_true rfl) dL_law_1531 rfl rfl rfl rfl rfl) ?_
  exact GoL.br (r_icmp_eq (tgt := 1628) dL_law_1534 rfl (by decide)) (fun _ => K σ2 τ2 hI2) (fun c => absurd rfl c)
set_option maxRecDepth 20000 in
theorem lc_41 {i N : Nat} {xs : Nat → Int32} (hi : i + 6 ≤ N) (hN : N ≤ 3072) {σ : Sg} {τ : Sl} (hI : Inv σ) (K : ∀ σ τ, Inv σ → GoL N xs 88 2098 1628 (LL i) [] (mk σ τ)) : GoL N xs 88 2098 1539 (LL i) [] (mk σ τ) := by
  obtain ⟨r, σ1, τ1, σ2, τ2, e1, e2, hI2⟩ := ca_read hI τ (xs (i + 1)) (xs (i + 2)) (xs (i + 3)) (xs (i + 4))
  refine GoL.st (r_aload_n (i := 1) dL_law_1539 rfl rfl rfl) ?_
  refine gl_arg (i := i) (j := 1) dL_law_1540 dL_law_1541 dL_law_1542 dL_law_1543 dL_law_1544 rfl rfl rfl rfl rfl rfl rfl rfl (by omega) hN ?_
  refine gl_arg (i := i) (j := 2) dL_law_1545 dL_law_1546 dL_law_1547 dL_law_1548 dL_law_1549 rfl rfl rfl rfl rfl rfl rfl rfl (by omega) hN ?_
  refine gl_arg (i := i) (j := 3) dL_law_1550 dL_law_1551 dL_law_1552 dL_law_1553 dL_law_1554 rfl rfl rfl rfl rfl rfl rfl rfl (by omega) hN ?_
  refine gl_arg (i := i) (j := 4) dL_law_1555 dL_law_1556 dL_law_1557 dL_law_1558 dL_law_1559 rfl rfl rfl rfl rfl rfl rfl rfl (by omega) hN ?_
  refine GoL.st (r_callV (M := M_law) (as := [.int (xs (i + 1)), .int (xs (i + 2)), .int (xs (i + 3)), .int (xs (i + 4))]) (r := some (.int r)) (kc1 := 88) (ks1 := 2098) (st := []) (st1 := [.int r]) e1 mv_X9_read q947 ⟨Nat.le_of_ble_eq_true rfl, Nat.le_of_ble_eq_true rfl⟩ (n0 := 0) (tag := 9) rfl (Nat.le_of_ble_eq_true rfl) (by decide) ⟨_, rfl, rfl⟩ ⟨Nat.le_of_ble_eq_true rfl, Nat.le_of_ble_eq_true rfl⟩ (Nat.le_of_ble_eq_true rfl) dL_law_1560 rfl rfl rfl rfl rfl) ?_
  refine GoL.st (r_aload_n (i := 2) dL_law_1563 rfl rfl rfl) ?_
  refine gl_arg (i := i) (j := 1) dL_law_1564 dL_law_1565 dL_law_1566 dL_law_1567 dL_law_1568 rfl rfl rfl rfl rfl rfl rfl rfl (by omega) hN ?_
  refine gl_arg (i := i) (j := 2) dL_law_1569 dL_law_1570 dL_law_1571 dL_law_1572 dL_law_1573 rfl rfl rfl rfl rfl rfl rfl rfl (by omega) hN ?_
  refine gl_arg (i := i) (j := 3) dL_law_1574 dL_law_1575 dL_law_1576 dL_law_1577 dL_law_1578 rfl rfl rfl rfl rfl rfl rfl rfl (by omega) hN ?_
  refine gl_arg (i := i) (j := 4) dL_law_1579 dL_law_1580 dL_law_1581 dL_law_1582 dL_law_1583 rfl rfl rfl rfl rfl rfl rfl rfl (by omega) hN ?_
  refine GoL.st (r_callV (M := M_law) (as := [.int (xs (i + 1)), .int (xs (i + 2)), .int (xs (i + 3)), .int (xs (i + 4))]) (r := some (.int r)) (kc1 := 88) (ks1 := 2098) (st := [.int r]) (st1 := [.int r, .int r]) e2 mv_X10_read q1387 ⟨Nat.le_of_ble_eq_true rfl, Nat.le_of_ble_eq_true rfl⟩ (n0 := 0) (tag := 10) rfl (Nat.le_of_ble_eq_true rfl) (by decide) ⟨_, rfl, rfl⟩ ⟨Nat.le_of_ble_eq_true rfl, Nat.le_of_ble_eq_true rfl⟩ (Nat.le_of_ble_eq_true rfl) dL_law_1584 rfl rfl rfl rfl rfl) ?_
  exact GoL.br (r_icmp_eq (tgt := 1628) dL_law_1587 rfl (by decide)) (fun _ => K σ2 τ2 hI2) (fun c => absurd rfl c)
set_option maxRecDepth 20000 in
theorem lc_42 {i N : Nat} {xs : Nat → Int32} (hi : i + 6 ≤ N) (hN : N ≤ 3072) {σ : Sg} {τ : Sl} (hI : Inv σ) (K : ∀ σ τ, Inv σ → GoL N xs 88 2098 1628 (LL i) [] (mk σ τ)) : GoL N xs 88 2098 1592 (LL i) [] (mk σ τ) := by
  obtain ⟨r, σ1, τ1, σ2, τ2, e1, e2, hI2⟩ := ca_torn hI τ
  refine GoL.st (r_aload_n (i := 1) dL_law_1592 rfl rfl rfl) ?_
  refine GoL.st (r_callV (M := M_law) (as := []) (r := some (.int r)) (kc1 := 88) (ks1 := 2098) (st := []) (st1 := [.int r]) e1 mv_X9_torn q961 ⟨Nat.le_of_ble_eq_true rfl, Nat.le_of_ble_eq_true rfl⟩ (n0 := 0) (tag := 9) rfl (Nat.le_of_ble_eq_true rfl) (by decide) ⟨_, rfl, rfl⟩ ⟨Nat.le_of_ble_eq_true rfl, Nat.le_of_ble_eq_true rfl⟩ (Nat.le_of_ble_eq_true rfl) dL_law_1593 rfl rfl rfl rfl rfl) ?_
  refine GoL.st (r_aload_n (i := 2) dL_law_1596 rfl rfl rfl) ?_
  refine GoL.st (r_callV (M := M_law) (as := []) (r := some (.int r)) (kc1 := 88) (ks1 := 2098) (st := [.int r]) (st1 := [.int r, .int r]) e2 mv_X10_torn q1392 ⟨Nat.le_of_ble_eq_true rfl, Nat.le_of_ble_eq_true rfl⟩ (n0 := 0) (tag := 10) rfl (Nat.le_of_ble_eq_true rfl) (by decide) ⟨_, rfl, rfl⟩ ⟨Nat.le_of_ble_eq_true rfl, Nat.le_of_ble_eq_true rfl⟩ (Nat.le_of_ble_eq_true rfl) dL_law_1597 rfl rfl rfl rfl rfl) ?_
  exact GoL.br (r_icmp_eq (tgt := 1628) dL_law_1600 rfl (by decide)) (fun _ => K σ2 τ2 hI2) (fun c => absurd rfl c)
set_option maxRecDepth 20000 in
theorem lc_43 {i N : Nat} {xs : Nat → Int32} (hi : i + 6 ≤ N) (hN : N ≤ 3072) {σ : Sg} {τ : Sl} (hI : Inv σ) (K : ∀ σ τ, Inv σ → GoL N xs 88 2098 1628 (LL i) [] (mk σ τ)) : GoL N xs 88 2098 1605 (LL i) [] (mk σ τ) := by
  obtain ⟨r, σ1, τ1, σ2, τ2, e1, e2, hI2⟩ := ca_count hI τ (xs (i + 1))
  refine GoL.st (r_aload_n (i := 1) dL_law_1605 rfl rfl rfl) ?_
  refine gl_arg (i := i) (j := 1) dL_law_1606 dL_law_1607 dL_law_1608 dL_law_1609 dL_law_1610 rfl rfl rfl rfl rfl rfl rfl rfl (by omega) hN ?_
  refine GoL.st (r_callV (M := M_law) (as := [.int (xs (i + 1))]) (r := some (.int r)) (kc1 := 88) (ks1 := 2098) (st := []) (st1 := [.int r]) e1 mv_X9_count q965 ⟨Nat.le_of_ble_eq_true rfl, Nat.le_of_ble_eq_true rfl⟩ (n0 := 0) (tag := 9) rfl (Nat.le_of_ble_eq_true rfl) (by decide) ⟨_, rfl, rfl⟩ ⟨Nat.le_of_ble_eq_true rfl, Nat.le_of_ble_eq_true rfl⟩ (Nat.le_of_ble_eq_true rfl) dL_law_1611 rfl rfl rfl rfl rfl) ?_
  refine GoL.st (r_aload_n (i := 2) dL_law_1614 rfl rfl rfl) ?_
  refine gl_arg (i := i) (j := 1) dL_law_1615 dL_law_1616 dL_law_1617 dL_law_1618 dL_law_1619 rfl rfl rfl rfl rfl rfl rfl rfl (by omega) hN ?_
  refine GoL.st (r_callV (M := M_law) (as := [.int (xs (i + 1))]) (r := some (.int r)) (kc1 := 88) (ks1 := 2098) (st := [.int r]) (st1 := [.int r, .int r]) e2 mv_X10_count q1396 ⟨Nat.le_of_ble_eq_true rfl, Nat.le_of_ble_eq_true rfl⟩ (n0 := 0) (tag := 10) rfl (Nat.le_of_ble_eq_true rfl) (by decide) ⟨_, rfl, rfl⟩ ⟨Nat.le_of_ble_eq_true rfl, Nat.le_of_ble_eq_true rfl⟩ (Nat.le_of_ble_eq_true rfl) dL_law_1620 rfl rfl rfl rfl rfl) ?_
  exact GoL.br (r_icmp_eq (tgt := 1628) dL_law_1623 rfl (by decide)) (fun _ => K σ2 τ2 hI2) (fun c => absurd rfl c)
set_option maxRecDepth 20000 in
theorem l_switch {i N : Nat} {xs : Nat → Int32} (hi : i + 6 ≤ N) (hN : N ≤ 3072) {σ : Sg} {τ : Sl} (hI : Inv σ) (K : ∀ σ τ, Inv σ → GoL N xs 88 2098 1628 (LL i) [] (mk σ τ)) {n : Nat} (hn : n < 64) : GoL N xs 88 2098 33 (LL i) [.int (nI n)] (mk σ τ) := by
  have hx : (nI n).toInt = n := nI_toInt (by omega)
  by_cases h : n < 44
  · match n, h with
    | 0, _ => exact GoL.st (r_tin (x := nI 0) (off := 191) (pc1 := 224) dL_law_33 (by decide) (by decide) (by decide) (by decide)) (lc_0 hi hN hI K)
    | 1, _ => exact GoL.st (r_tin (x := nI 1) (off := 214) (pc1 := 247) dL_law_33 (by decide) (by decide) (by decide) (by decide)) (lc_1 hi hN hI K)
    | 2, _ => exact GoL.st (r_tin (x := nI 2) (off := 237) (pc1 := 270) dL_law_33 (by decide) (by decide) (by decide) (by decide)) (lc_2 hi hN hI K)
    | 3, _ => exact GoL.st (r_tin (x := nI 3) (off := 250) (pc1 := 283) dL_law_33 (by decide) (by decide) (by decide) (by decide)) (lc_3 hi hN hI K)
    | 4, _ => exact GoL.st (r_tin (x := nI 4) (off := 263) (pc1 := 296) dL_law_33 (by decide) (by decide) (by decide) (by decide)) (lc_4 hi hN hI K)
    | 5, _ => exact GoL.st (r_tin (x := nI 5) (off := 286) (pc1 := 319) dL_law_33 (by decide) (by decide) (by decide) (by decide)) (lc_5 hi hN hI K)
    | 6, _ => exact GoL.st (r_tin (x := nI 6) (off := 319) (pc1 := 352) dL_law_33 (by decide) (by decide) (by decide) (by decide)) (lc_6 hi hN hI K)
    | 7, _ => exact GoL.st (r_tin (x := nI 7) (off := 342) (pc1 := 375) dL_law_33 (by decide) (by decide) (by decide) (by decide)) (lc_7 hi hN hI K)
    | 8, _ => exact GoL.st (r_tin (x := nI 8) (off := 375) (pc1 := 408) dL_law_33 (by decide) (by decide) (by decide) (by decide)) (lc_8 hi hN hI K)
    | 9, _ => exact GoL.st (r_tin (x := nI 9) (off := 408) (pc1 := 441) dL_law_33 (by decide) (by decide) (by decide) (by decide)) (lc_9 hi hN hI K)
    | 10, _ => exact GoL.st (r_tin (x := nI 10) (off := 441) (pc1 := 474) dL_law_33 (by decide) (by decide) (by decide) (by decide)) (lc_10 hi hN hI K)
    | 11, _ => exact GoL.st (r_tin (x := nI 11) (off := 474) (pc1 := 507) dL_law_33 (by decide) (by decide) (by decide) (by decide)) (lc_11 hi hN hI K)
    | 12, _ => exact GoL.st (r_tin (x := nI 12) (off := 517) (pc1 := 550) dL_law_33 (by decide) (by decide) (by decide) (by decide)) (lc_12 hi hN hI K)
    | 13, _ => exact GoL.st (r_tin (x := nI 13) (off := 550) (pc1 := 583) dL_law_33 (by decide) (by decide) (by decide) (by decide)) (lc_13 hi hN hI K)
    | 14, _ => exact GoL.st (r_tin (x := nI 14) (off := 573) (pc1 := 606) dL_law_33 (by decide) (by decide) (by decide) (by decide)) (lc_14 hi hN hI K)
    | 15, _ => exact GoL.st (r_tin (x := nI 15) (off := 596) (pc1 := 629) dL_law_33 (by decide) (by decide) (by decide) (by decide)) (lc_15 hi hN hI K)
    | 16, _ => exact GoL.st (r_tin (x := nI 16) (off := 629) (pc1 := 662) dL_law_33 (by decide) (by decide) (by decide) (by decide)) (lc_16 hi hN hI K)
    | 17, _ => exact GoL.st (r_tin (x := nI 17) (off := 652) (pc1 := 685) dL_law_33 (by decide) (by decide) (by decide) (by decide)) (lc_17 hi hN hI K)
    | 18, _ => exact GoL.st (r_tin (x := nI 18) (off := 695) (pc1 := 728) dL_law_33 (by decide) (by decide) (by decide) (by decide)) (lc_18 hi hN hI K)
    | 19, _ => exact GoL.st (r_tin (x := nI 19) (off := 738) (pc1 := 771) dL_law_33 (by decide) (by decide) (by decide) (by decide)) (lc_19 hi hN hI K)
    | 20, _ => exact GoL.st (r_tin (x := nI 20) (off := 761) (pc1 := 794) dL_law_33 (by decide) (by decide) (by decide) (by decide)) (lc_20 hi hN hI K)
    | 21, _ => exact GoL.st (r_tin (x := nI 21) (off := 794) (pc1 := 827) dL_law_33 (by decide) (by decide) (by decide) (by decide)) (lc_21 hi hN hI K)
    | 22, _ => exact GoL.st (r_tin (x := nI 22) (off := 827) (pc1 := 860) dL_law_33 (by decide) (by decide) (by decide) (by decide)) (lc_22 hi hN hI K)
    | 23, _ => exact GoL.st (r_tin (x := nI 23) (off := 870) (pc1 := 903) dL_law_33 (by decide) (by decide) (by decide) (by decide)) (lc_23 hi hN hI K)
    | 24, _ => exact GoL.st (r_tin (x := nI 24) (off := 903) (pc1 := 936) dL_law_33 (by decide) (by decide) (by decide) (by decide)) (lc_24 hi hN hI K)
    | 25, _ => exact GoL.st (r_tin (x := nI 25) (off := 936) (pc1 := 969) dL_law_33 (by decide) (by decide) (by decide) (by decide)) (lc_25 hi hN hI K)
    | 26, _ => exact GoL.st (r_tin (x := nI 26) (off := 969) (pc1 := 1002) dL_law_33 (by decide) (by decide) (by decide) (by decide)) (lc_26 hi hN hI K)
    | 27, _ => exact GoL.st (r_tin (x := nI 27) (off := 1002) (pc1 := 1035) dL_law_33 (by decide) (by decide) (by decide) (by decide)) (lc_27 hi hN hI K)
    | 28, _ => exact GoL.st (r_tin (x := nI 28) (off := 1035) (pc1 := 1068) dL_law_33 (by decide) (by decide) (by decide) (by decide)) (lc_28 hi hN hI K)
    | 29, _ => exact GoL.st (r_tin (x := nI 29) (off := 1068) (pc1 := 1101) dL_law_33 (by decide) (by decide) (by decide) (by decide)) (lc_29 hi hN hI K)
    | 30, _ => exact GoL.st (r_tin (x := nI 30) (off := 1132) (pc1 := 1165) dL_law_33 (by decide) (by decide) (by decide) (by decide)) (lc_30 hi hN hI K)
    | 31, _ => exact GoL.st (r_tin (x := nI 31) (off := 1186) (pc1 := 1219) dL_law_33 (by decide) (by decide) (by decide) (by decide)) (lc_31 hi hN hI K)
    | 32, _ => exact GoL.st (r_tin (x := nI 32) (off := 1229) (pc1 := 1262) dL_law_33 (by decide) (by decide) (by decide) (by decide)) (lc_32 hi hN hI K)
    | 33, _ => exact GoL.st (r_tin (x := nI 33) (off := 1252) (pc1 := 1285) dL_law_33 (by decide) (by decide) (by decide) (by decide)) (lc_33 hi hN hI K)
    | 34, _ => exact GoL.st (r_tin (x := nI 34) (off := 1275) (pc1 := 1308) dL_law_33 (by decide) (by decide) (by decide) (by decide)) (lc_34 hi hN hI K)
    | 35, _ => exact GoL.st (r_tin (x := nI 35) (off := 1298) (pc1 := 1331) dL_law_33 (by decide) (by decide) (by decide) (by decide)) (lc_35 hi hN hI K)
    | 36, _ => exact GoL.st (r_tin (x := nI 36) (off := 1331) (pc1 := 1364) dL_law_33 (by decide) (by decide) (by decide) (by decide)) (lc_36 hi hN hI K)
    | 37, _ => exact GoL.st (r_tin (x := nI 37) (off := 1374) (pc1 := 1407) dL_law_33 (by decide) (by decide) (by decide) (by decide)) (lc_37 hi hN hI K)
    | 38, _ => exact GoL.st (r_tin (x := nI 38) (off := 1397) (pc1 := 1430) dL_law_33 (by decide) (by decide) (by decide) (by decide)) (lc_38 hi hN hI K)
    | 39, _ => exact GoL.st (r_tin (x := nI 39) (off := 1420) (pc1 := 1453) dL_law_33 (by decide) (by decide) (by decide) (by decide)) (lc_39 hi hN hI K)
    | 40, _ => exact GoL.st (r_tin (x := nI 40) (off := 1463) (pc1 := 1496) dL_law_33 (by decide) (by decide) (by decide) (by decide)) (lc_40 hi hN hI K)
    | 41, _ => exact GoL.st (r_tin (x := nI 41) (off := 1506) (pc1 := 1539) dL_law_33 (by decide) (by decide) (by decide) (by decide)) (lc_41 hi hN hI K)
    | 42, _ => exact GoL.st (r_tin (x := nI 42) (off := 1559) (pc1 := 1592) dL_law_33 (by decide) (by decide) (by decide) (by decide)) (lc_42 hi hN hI K)
    | 43, _ => exact GoL.st (r_tin (x := nI 43) (off := 1572) (pc1 := 1605) dL_law_33 (by decide) (by decide) (by decide) (by decide)) (lc_43 hi hN hI K)
    | n + 44, h => omega
  · exact GoL.st (r_tout (pc1 := 1628) dL_law_33 (Or.inr (by rw [hx]; omega)) (by decide)) (K σ τ hI)
theorem l_loop {N : Nat} {xs : Nat → Int32} (hN : N ≤ 3072) : ∀ (d i : Nat) (σ : Sg) (τ : Sl), N + 6 - i ≤ d → i ≤ N → Inv σ → GoL N xs 88 2098 18 (LL i) [] (mk σ τ) := by
  intro d
  induction d with
  | zero => intro i σ τ h1 h2; omega
  | succ d ih =>
    intro i σ τ h1 h2 hI
    refine GoL.st (r_iload_n (i := 3) dL_law_18 rfl rfl rfl) ?_
    refine gl_a0 dL_law_19 rfl rfl ?_
    refine gl_len dL_law_20 rfl ?_
    refine GoL.st (r_bipush (v := 6) dL_law_21 rfl kB_6) ?_
    refine GoL.st (r_isub dL_law_23 rfl) ?_
    refine GoL.br (r_icmp_gt (tgt := 1634) dL_law_24 rfl (by decide)) (fun _ => ?_) (fun c => ?_)
    · refine GoL.st (r_iconst (v := 1) dL_law_1634 rfl kI_1) ?_
      exact gl_end dL_law_1635 (Nat.le_of_ble_eq_true rfl) (Nat.le_of_ble_eq_true rfl)
    · have hi : i + 6 ≤ N := by
        rw [Int32.lt_iff_toInt_lt, lt_end N (by omega), nI_toInt (by omega)] at c
        omega
      refine gl_a0 dL_law_27 rfl rfl ?_
      refine GoL.st (r_iload_n (i := 3) dL_law_28 rfl rfl rfl) ?_
      refine gl_ld dL_law_29 rfl (vp_in_nI (by omega) (by omega)) ?_
      refine GoL.st (r_bipush (v := 63) dL_law_30 rfl kB_63) ?_
      refine GoL.st (r_iand dL_law_32 rfl) ?_
      obtain ⟨n, hn, e⟩ := and63 (xs (nI i).toNatClampNeg)
      rw [e]
      refine l_switch hi hN hI (fun σ2 τ2 hI2 => ?_) hn
      refine GoL.st (r_iinc (v := nI (i + 6)) (L1 := LL (i + 6)) dL_law_1628 rfl rfl (nI_add i 6) (by decide) rfl) ?_
      refine GoL.st (r_goto (pc1 := 18) dL_law_1631 (by decide)) ?_
      exact ih (i + 6) σ2 τ2 (by omega) (by omega) hI2
