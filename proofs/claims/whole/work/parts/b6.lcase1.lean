section Zb6
variable {Γ : zC} {κ : lX} {L : Nat} {xs : Nat → Int32} {i : Int32} {M : zM}
theorem lc_feed {n : Nat} (C : lH Γ κ L xs) (hi : i = iz (n : Int)) (hL : n + 6 ≤ L) (hI : Inv M) (h : ∀ M2, Inv M2 → lJ Γ κ i 1698 [] M2) : lJ Γ κ i 212 [] M := by
  refine l_a1 (pc := 212) (pc' := 213) C dLw_212 rfl ?_
  refine l_int (pc := 213) (pc' := 218) (j := 1) C hi (by omega) (by decide) dLw_213 dLw_214 dLw_215 dLw_216 dLw_217 rfl ?_
  refine l_int (pc := 218) (pc' := 223) (j := 2) C hi (by omega) (by decide) dLw_218 dLw_219 dLw_220 dLw_221 dLw_222 rfl ?_
  refine l_int (pc := 223) (pc' := 228) (j := 3) C hi (by omega) (by decide) dLw_223 dLw_224 dLw_225 dLw_226 dLw_227 rfl ?_
  refine l_int (pc := 228) (pc' := 233) (j := 4) C hi (by omega) (by decide) dLw_228 dLw_229 dLw_230 dLw_231 dLw_232 rfl ?_
  refine l_int (pc := 233) (pc' := 238) (j := 5) C hi (by omega) (by decide) dLw_233 dLw_234 dLw_235 dLw_236 dLw_237 rfl ?_
  refine l_call (μ := 108) (cN := 9) (idx := 13) (pc := 238) (pc' := 241) (as := [zi (xs (n + 1)), zi (xs (n + 2)), zi (xs (n + 3)), zi (xs (n + 4)), zi (xs (n + 5))]) (rest := []) C rfl rfl rfl (by decide +kernel) (by decide) (zok_is (l := [xs (n + 1), xs (n + 2), xs (n + 3), xs (n + 4), xs (n + 5)])) rfl (zi2 179 (by decide +kernel) (by decide +kernel)) ⟨by decide +kernel, by decide +kernel⟩ (by decide) rfl dLw_238 rfl (both_feed  M (fun o M1 => ∃ r, o = some r ∧ kdV 0 r ∧ zEv Γ 155 (zo 10 0 0 :: [zi (xs (n + 1)), zi (xs (n + 2)), zi (xs (n + 3)), zi (xs (n + 4)), zi (xs (n + 5))]) M1 (fun o M2 => o = some r ∧ Inv M2)) hI (fun r M1 h1 h2 => ⟨r, rfl, h1, h2⟩)) (fun o M1 hq => ?_)
  obtain ⟨r, rfl, ⟨v, rfl⟩, hE⟩ := hq
  refine l_a2 (pc := 241) (pc' := 242) C dLw_241 rfl ?_
  refine l_int (pc := 242) (pc' := 247) (j := 1) C hi (by omega) (by decide) dLw_242 dLw_243 dLw_244 dLw_245 dLw_246 rfl ?_
  refine l_int (pc := 247) (pc' := 252) (j := 2) C hi (by omega) (by decide) dLw_247 dLw_248 dLw_249 dLw_250 dLw_251 rfl ?_
  refine l_int (pc := 252) (pc' := 257) (j := 3) C hi (by omega) (by decide) dLw_252 dLw_253 dLw_254 dLw_255 dLw_256 rfl ?_
  refine l_int (pc := 257) (pc' := 262) (j := 4) C hi (by omega) (by decide) dLw_257 dLw_258 dLw_259 dLw_260 dLw_261 rfl ?_
  refine l_int (pc := 262) (pc' := 267) (j := 5) C hi (by omega) (by decide) dLw_262 dLw_263 dLw_264 dLw_265 dLw_266 rfl ?_
  refine l_call (μ := 155) (cN := 10) (idx := 17) (pc := 267) (pc' := 270) (as := [zi (xs (n + 1)), zi (xs (n + 2)), zi (xs (n + 3)), zi (xs (n + 4)), zi (xs (n + 5))]) (rest := [.int v]) C rfl rfl rfl (by decide +kernel) (by decide) (zok_is (l := [xs (n + 1), xs (n + 2), xs (n + 3), xs (n + 4), xs (n + 5)])) rfl (zi6 65 (by decide +kernel) (by decide +kernel)) ⟨by decide +kernel, by decide +kernel⟩ (by show 1 ≤ 8; decide) rfl dLw_267 rfl hE (fun o M2 hq => ?_)
  obtain ⟨rfl, hI2⟩ := hq
  exact l_eqI (pc := 270) (tgt := 1698) C dLw_270 rfl (h M2 hI2)
theorem lc_end {n : Nat} (C : lH Γ κ L xs) (hi : i = iz (n : Int)) (hL : n + 6 ≤ L) (hI : Inv M) (h : ∀ M2, Inv M2 → lJ Γ κ i 1698 [] M2) : lJ Γ κ i 275 [] M := by
  refine l_a1 (pc := 275) (pc' := 276) C dLw_275 rfl ?_
  refine l_int (pc := 276) (pc' := 281) (j := 1) C hi (by omega) (by decide) dLw_276 dLw_277 dLw_278 dLw_279 dLw_280 rfl ?_
  refine l_call (μ := 109) (cN := 9) (idx := 18) (pc := 281) (pc' := 284) (as := [zi (xs (n + 1))]) (rest := []) C rfl rfl rfl (by decide +kernel) (by decide) (zok_is (l := [xs (n + 1)])) rfl (zi2 187 (by decide +kernel) (by decide +kernel)) ⟨by decide +kernel, by decide +kernel⟩ (by decide) rfl dLw_281 rfl (both_end  M (fun o M1 => ∃ r, o = some r ∧ kdV 0 r ∧ zEv Γ 156 (zo 10 0 0 :: [zi (xs (n + 1))]) M1 (fun o M2 => o = some r ∧ Inv M2)) hI (fun r M1 h1 h2 => ⟨r, rfl, h1, h2⟩)) (fun o M1 hq => ?_)
  obtain ⟨r, rfl, ⟨v, rfl⟩, hE⟩ := hq
  refine l_a2 (pc := 284) (pc' := 285) C dLw_284 rfl ?_
  refine l_int (pc := 285) (pc' := 290) (j := 1) C hi (by omega) (by decide) dLw_285 dLw_286 dLw_287 dLw_288 dLw_289 rfl ?_
  refine l_call (μ := 156) (cN := 10) (idx := 22) (pc := 290) (pc' := 293) (as := [zi (xs (n + 1))]) (rest := [.int v]) C rfl rfl rfl (by decide +kernel) (by decide) (zok_is (l := [xs (n + 1)])) rfl (zi6 69 (by decide +kernel) (by decide +kernel)) ⟨by decide +kernel, by decide +kernel⟩ (by show 1 ≤ 8; decide) rfl dLw_290 rfl hE (fun o M2 hq => ?_)
  obtain ⟨rfl, hI2⟩ := hq
  exact l_eqI (pc := 293) (tgt := 1698) C dLw_293 rfl (h M2 hI2)
theorem lc_sale {n : Nat} (hsr : zSr Γ) (C : lH Γ κ L xs) (hi : i = iz (n : Int)) (hL : n + 6 ≤ L) (hI : Inv M) (h : ∀ M2, Inv M2 → lJ Γ κ i 1698 [] M2) : lJ Γ κ i 298 [] M := by
  refine l_a1 (pc := 298) (pc' := 299) C dLw_298 rfl ?_
  refine l_int (pc := 299) (pc' := 304) (j := 1) C hi (by omega) (by decide) dLw_299 dLw_300 dLw_301 dLw_302 dLw_303 rfl ?_
  refine l_call (μ := 110) (cN := 9) (idx := 23) (pc := 304) (pc' := 307) (as := [zi (xs (n + 1))]) (rest := []) C rfl rfl rfl (by decide +kernel) (by decide) (zok_is (l := [xs (n + 1)])) rfl (zi2 191 (by decide +kernel) (by decide +kernel)) ⟨by decide +kernel, by decide +kernel⟩ (by decide) rfl dLw_304 rfl (both_sale hsr M (fun o M1 => ∃ r, o = some r ∧ kdV 0 r ∧ zEv Γ 175 (zo 10 0 0 :: [zi (xs (n + 1))]) M1 (fun o M2 => o = some r ∧ Inv M2)) hI (fun r M1 h1 h2 => ⟨r, rfl, h1, h2⟩)) (fun o M1 hq => ?_)
  obtain ⟨r, rfl, ⟨v, rfl⟩, hE⟩ := hq
  refine l_a2 (pc := 307) (pc' := 308) C dLw_307 rfl ?_
  refine l_int (pc := 308) (pc' := 313) (j := 1) C hi (by omega) (by decide) dLw_308 dLw_309 dLw_310 dLw_311 dLw_312 rfl ?_
  refine l_call (μ := 175) (cN := 10) (idx := 26) (pc := 313) (pc' := 316) (as := [zi (xs (n + 1))]) (rest := [.int v]) C rfl rfl rfl (by decide +kernel) (by decide) (zok_is (l := [xs (n + 1)])) rfl (zi6 73 (by decide +kernel) (by decide +kernel)) ⟨by decide +kernel, by decide +kernel⟩ (by show 1 ≤ 8; decide) rfl dLw_313 rfl hE (fun o M2 hq => ?_)
  obtain ⟨rfl, hI2⟩ := hq
  exact l_eqI (pc := 316) (tgt := 1698) C dLw_316 rfl (h M2 hI2)
theorem lc_fault {n : Nat} (C : lH Γ κ L xs) (hi : i = iz (n : Int)) (hL : n + 6 ≤ L) (hI : Inv M) (h : ∀ M2, Inv M2 → lJ Γ κ i 1698 [] M2) : lJ Γ κ i 321 [] M := by
  refine l_a1 (pc := 321) (pc' := 322) C dLw_321 rfl ?_
  refine l_int (pc := 322) (pc' := 327) (j := 1) C hi (by omega) (by decide) dLw_322 dLw_323 dLw_324 dLw_325 dLw_326 rfl ?_
  refine l_call (μ := 111) (cN := 9) (idx := 27) (pc := 327) (pc' := 330) (as := [zi (xs (n + 1))]) (rest := []) C rfl rfl rfl (by decide +kernel) (by decide) (zok_is (l := [xs (n + 1)])) rfl (zi3 120 (by decide +kernel) (by decide +kernel)) ⟨by decide +kernel, by decide +kernel⟩ (by decide) rfl dLw_327 rfl (both_fault  M (fun o M1 => ∃ r, o = some r ∧ kdV 0 r ∧ zEv Γ 176 (zo 10 0 0 :: [zi (xs (n + 1))]) M1 (fun o M2 => o = some r ∧ Inv M2)) hI (fun r M1 h1 h2 => ⟨r, rfl, h1, h2⟩)) (fun o M1 hq => ?_)
  obtain ⟨r, rfl, ⟨v, rfl⟩, hE⟩ := hq
  refine l_a2 (pc := 330) (pc' := 331) C dLw_330 rfl ?_
  refine l_int (pc := 331) (pc' := 336) (j := 1) C hi (by omega) (by decide) dLw_331 dLw_332 dLw_333 dLw_334 dLw_335 rfl ?_
  refine l_call (μ := 176) (cN := 10) (idx := 30) (pc := 336) (pc' := 339) (as := [zi (xs (n + 1))]) (rest := [.int v]) C rfl rfl rfl (by decide +kernel) (by decide) (zok_is (l := [xs (n + 1)])) rfl (zi6 149 (by decide +kernel) (by decide +kernel)) ⟨by decide +kernel, by decide +kernel⟩ (by show 1 ≤ 8; decide) rfl dLw_336 rfl hE (fun o M2 hq => ?_)
  obtain ⟨rfl, hI2⟩ := hq
  exact l_eqI (pc := 339) (tgt := 1698) C dLw_339 rfl (h M2 hI2)
theorem lc_about {n : Nat} (C : lH Γ κ L xs) (hi : i = iz (n : Int)) (hL : n + 6 ≤ L) (hI : Inv M) (h : ∀ M2, Inv M2 → lJ Γ κ i 1698 [] M2) : lJ Γ κ i 344 [] M := by
  refine l_a1 (pc := 344) (pc' := 345) C dLw_344 rfl ?_
  refine l_int (pc := 345) (pc' := 350) (j := 1) C hi (by omega) (by decide) dLw_345 dLw_346 dLw_347 dLw_348 dLw_349 rfl ?_
  refine l_int (pc := 350) (pc' := 355) (j := 2) C hi (by omega) (by decide) dLw_350 dLw_351 dLw_352 dLw_353 dLw_354 rfl ?_
  refine l_call (μ := 112) (cN := 9) (idx := 31) (pc := 355) (pc' := 358) (as := [zi (xs (n + 1)), zi (xs (n + 2))]) (rest := []) C rfl rfl rfl (by decide +kernel) (by decide) (zok_is (l := [xs (n + 1), xs (n + 2)])) rfl (zi3 124 (by decide +kernel) (by decide +kernel)) ⟨by decide +kernel, by decide +kernel⟩ (by decide) rfl dLw_355 rfl (both_about  M (fun o M1 => ∃ r, o = some r ∧ kdV 0 r ∧ zEv Γ 194 (zo 10 0 0 :: [zi (xs (n + 1)), zi (xs (n + 2))]) M1 (fun o M2 => o = some r ∧ Inv M2)) hI (fun r M1 h1 h2 => ⟨r, rfl, h1, h2⟩)) (fun o M1 hq => ?_)
  obtain ⟨r, rfl, ⟨v, rfl⟩, hE⟩ := hq
  refine l_a2 (pc := 358) (pc' := 359) C dLw_358 rfl ?_
  refine l_int (pc := 359) (pc' := 364) (j := 1) C hi (by omega) (by decide) dLw_359 dLw_360 dLw_361 dLw_362 dLw_363 rfl ?_
  refine l_int (pc := 364) (pc' := 369) (j := 2) C hi (by omega) (by decide) dLw_364 dLw_365 dLw_366 dLw_367 dLw_368 rfl ?_
  refine l_call (μ := 194) (cN := 10) (idx := 35) (pc := 369) (pc' := 372) (as := [zi (xs (n + 1)), zi (xs (n + 2))]) (rest := [.int v]) C rfl rfl rfl (by decide +kernel) (by decide) (zok_is (l := [xs (n + 1), xs (n + 2)])) rfl (zi6 153 (by decide +kernel) (by decide +kernel)) ⟨by decide +kernel, by decide +kernel⟩ (by show 1 ≤ 8; decide) rfl dLw_369 rfl hE (fun o M2 hq => ?_)
  obtain ⟨rfl, hI2⟩ := hq
  exact l_eqI (pc := 372) (tgt := 1698) C dLw_372 rfl (h M2 hI2)
theorem lc_worth {n : Nat} (C : lH Γ κ L xs) (hi : i = iz (n : Int)) (hL : n + 6 ≤ L) (hI : Inv M) (h : ∀ M2, Inv M2 → lJ Γ κ i 1698 [] M2) : lJ Γ κ i 377 [] M := by
  refine l_a1 (pc := 377) (pc' := 378) C dLw_377 rfl ?_
  refine l_int (pc := 378) (pc' := 383) (j := 1) C hi (by omega) (by decide) dLw_378 dLw_379 dLw_380 dLw_381 dLw_382 rfl ?_
  refine l_int (pc := 383) (pc' := 388) (j := 2) C hi (by omega) (by decide) dLw_383 dLw_384 dLw_385 dLw_386 dLw_387 rfl ?_
  refine l_int (pc := 388) (pc' := 393) (j := 3) C hi (by omega) (by decide) dLw_388 dLw_389 dLw_390 dLw_391 dLw_392 rfl ?_
  refine l_call (μ := 113) (cN := 9) (idx := 36) (pc := 393) (pc' := 396) (as := [zi (xs (n + 1)), zi (xs (n + 2)), zi (xs (n + 3))]) (rest := []) C rfl rfl rfl (by decide +kernel) (by decide) (zok_is (l := [xs (n + 1), xs (n + 2), xs (n + 3)])) rfl (zi3 133 (by decide +kernel) (by decide +kernel)) ⟨by decide +kernel, by decide +kernel⟩ (by decide) rfl dLw_393 rfl (both_worth  M (fun o M1 => ∃ r, o = some r ∧ kdV 0 r ∧ zEv Γ 195 (zo 10 0 0 :: [zi (xs (n + 1)), zi (xs (n + 2)), zi (xs (n + 3))]) M1 (fun o M2 => o = some r ∧ Inv M2)) hI (fun r M1 h1 h2 => ⟨r, rfl, h1, h2⟩)) (fun o M1 hq => ?_)
  obtain ⟨r, rfl, ⟨v, rfl⟩, hE⟩ := hq
  refine l_a2 (pc := 396) (pc' := 397) C dLw_396 rfl ?_
  refine l_int (pc := 397) (pc' := 402) (j := 1) C hi (by omega) (by decide) dLw_397 dLw_398 dLw_399 dLw_400 dLw_401 rfl ?_
  refine l_int (pc := 402) (pc' := 407) (j := 2) C hi (by omega) (by decide) dLw_402 dLw_403 dLw_404 dLw_405 dLw_406 rfl ?_
  refine l_int (pc := 407) (pc' := 412) (j := 3) C hi (by omega) (by decide) dLw_407 dLw_408 dLw_409 dLw_410 dLw_411 rfl ?_
  refine l_call (μ := 195) (cN := 10) (idx := 40) (pc := 412) (pc' := 415) (as := [zi (xs (n + 1)), zi (xs (n + 2)), zi (xs (n + 3))]) (rest := [.int v]) C rfl rfl rfl (by decide +kernel) (by decide) (zok_is (l := [xs (n + 1), xs (n + 2), xs (n + 3)])) rfl (zi6 165 (by decide +kernel) (by decide +kernel)) ⟨by decide +kernel, by decide +kernel⟩ (by show 1 ≤ 8; decide) rfl dLw_412 rfl hE (fun o M2 hq => ?_)
  obtain ⟨rfl, hI2⟩ := hq
  exact l_eqI (pc := 415) (tgt := 1698) C dLw_415 rfl (h M2 hI2)
theorem lc_bid {n : Nat} (C : lH Γ κ L xs) (hi : i = iz (n : Int)) (hL : n + 6 ≤ L) (hI : Inv M) (h : ∀ M2, Inv M2 → lJ Γ κ i 1698 [] M2) : lJ Γ κ i 420 [] M := by
  refine l_a1 (pc := 420) (pc' := 421) C dLw_420 rfl ?_
  refine l_int (pc := 421) (pc' := 426) (j := 1) C hi (by omega) (by decide) dLw_421 dLw_422 dLw_423 dLw_424 dLw_425 rfl ?_
  refine l_int (pc := 426) (pc' := 431) (j := 2) C hi (by omega) (by decide) dLw_426 dLw_427 dLw_428 dLw_429 dLw_430 rfl ?_
  refine l_int (pc := 431) (pc' := 436) (j := 3) C hi (by omega) (by decide) dLw_431 dLw_432 dLw_433 dLw_434 dLw_435 rfl ?_
  refine l_call (μ := 114) (cN := 9) (idx := 41) (pc := 436) (pc' := 439) (as := [zi (xs (n + 1)), zi (xs (n + 2)), zi (xs (n + 3))]) (rest := []) C rfl rfl rfl (by decide +kernel) (by decide) (zok_is (l := [xs (n + 1), xs (n + 2), xs (n + 3)])) rfl (zi3 145 (by decide +kernel) (by decide +kernel)) ⟨by decide +kernel, by decide +kernel⟩ (by decide) rfl dLw_436 rfl (both_bid  M (fun o M1 => ∃ r, o = some r ∧ kdV 0 r ∧ zEv Γ 196 (zo 10 0 0 :: [zi (xs (n + 1)), zi (xs (n + 2)), zi (xs (n + 3))]) M1 (fun o M2 => o = some r ∧ Inv M2)) hI (fun r M1 h1 h2 => ⟨r, rfl, h1, h2⟩)) (fun o M1 hq => ?_)
  obtain ⟨r, rfl, ⟨v, rfl⟩, hE⟩ := hq
  refine l_a2 (pc := 439) (pc' := 440) C dLw_439 rfl ?_
  refine l_int (pc := 440) (pc' := 445) (j := 1) C hi (by omega) (by decide) dLw_440 dLw_441 dLw_442 dLw_443 dLw_444 rfl ?_
  refine l_int (pc := 445) (pc' := 450) (j := 2) C hi (by omega) (by decide) dLw_445 dLw_446 dLw_447 dLw_448 dLw_449 rfl ?_
  refine l_int (pc := 450) (pc' := 455) (j := 3) C hi (by omega) (by decide) dLw_450 dLw_451 dLw_452 dLw_453 dLw_454 rfl ?_
  refine l_call (μ := 196) (cN := 10) (idx := 45) (pc := 455) (pc' := 458) (as := [zi (xs (n + 1)), zi (xs (n + 2)), zi (xs (n + 3))]) (rest := [.int v]) C rfl rfl rfl (by decide +kernel) (by decide) (zok_is (l := [xs (n + 1), xs (n + 2), xs (n + 3)])) rfl (zi6 185 (by decide +kernel) (by decide +kernel)) ⟨by decide +kernel, by decide +kernel⟩ (by show 1 ≤ 8; decide) rfl dLw_455 rfl hE (fun o M2 hq => ?_)
  obtain ⟨rfl, hI2⟩ := hq
  exact l_eqI (pc := 458) (tgt := 1698) C dLw_458 rfl (h M2 hI2)
theorem lc_rule {n : Nat} (C : lH Γ κ L xs) (hi : i = iz (n : Int)) (hL : n + 6 ≤ L) (hI : Inv M) (h : ∀ M2, Inv M2 → lJ Γ κ i 1698 [] M2) : lJ Γ κ i 463 [] M := by
  refine l_a1 (pc := 463) (pc' := 464) C dLw_463 rfl ?_
  refine l_int (pc := 464) (pc' := 469) (j := 1) C hi (by omega) (by decide) dLw_464 dLw_465 dLw_466 dLw_467 dLw_468 rfl ?_
  refine l_int (pc := 469) (pc' := 474) (j := 2) C hi (by omega) (by decide) dLw_469 dLw_470 dLw_471 dLw_472 dLw_473 rfl ?_
  refine l_int (pc := 474) (pc' := 479) (j := 3) C hi (by omega) (by decide) dLw_474 dLw_475 dLw_476 dLw_477 dLw_478 rfl ?_
  refine l_call (μ := 115) (cN := 9) (idx := 46) (pc := 479) (pc' := 482) (as := [zi (xs (n + 1)), zi (xs (n + 2)), zi (xs (n + 3))]) (rest := []) C rfl rfl rfl (by decide +kernel) (by decide) (zok_is (l := [xs (n + 1), xs (n + 2), xs (n + 3)])) rfl (zi3 152 (by decide +kernel) (by decide +kernel)) ⟨by decide +kernel, by decide +kernel⟩ (by decide) rfl dLw_479 rfl (both_rule  M (fun o M1 => ∃ r, o = some r ∧ kdV 0 r ∧ zEv Γ 197 (zo 10 0 0 :: [zi (xs (n + 1)), zi (xs (n + 2)), zi (xs (n + 3))]) M1 (fun o M2 => o = some r ∧ Inv M2)) hI (fun r M1 h1 h2 => ⟨r, rfl, h1, h2⟩)) (fun o M1 hq => ?_)
  obtain ⟨r, rfl, ⟨v, rfl⟩, hE⟩ := hq
  refine l_a2 (pc := 482) (pc' := 483) C dLw_482 rfl ?_
  refine l_int (pc := 483) (pc' := 488) (j := 1) C hi (by omega) (by decide) dLw_483 dLw_484 dLw_485 dLw_486 dLw_487 rfl ?_
  refine l_int (pc := 488) (pc' := 493) (j := 2) C hi (by omega) (by decide) dLw_488 dLw_489 dLw_490 dLw_491 dLw_492 rfl ?_
  refine l_int (pc := 493) (pc' := 498) (j := 3) C hi (by omega) (by decide) dLw_493 dLw_494 dLw_495 dLw_496 dLw_497 rfl ?_
  refine l_call (μ := 197) (cN := 10) (idx := 49) (pc := 498) (pc' := 501) (as := [zi (xs (n + 1)), zi (xs (n + 2)), zi (xs (n + 3))]) (rest := [.int v]) C rfl rfl rfl (by decide +kernel) (by decide) (zok_is (l := [xs (n + 1), xs (n + 2), xs (n + 3)])) rfl (zi6 189 (by decide +kernel) (by decide +kernel)) ⟨by decide +kernel, by decide +kernel⟩ (by show 1 ≤ 8; decide) rfl dLw_498 rfl hE (fun o M2 hq => ?_)
  obtain ⟨rfl, hI2⟩ := hq
  exact l_eqI (pc := 501) (tgt := 1698) C dLw_501 rfl (h M2 hI2)
theorem lc_stands {n : Nat} (C : lH Γ κ L xs) (hi : i = iz (n : Int)) (hL : n + 6 ≤ L) (hI : Inv M) (h : ∀ M2, Inv M2 → lJ Γ κ i 1698 [] M2) : lJ Γ κ i 506 [] M := by
  refine l_a1 (pc := 506) (pc' := 507) C dLw_506 rfl ?_
  refine l_int (pc := 507) (pc' := 512) (j := 1) C hi (by omega) (by decide) dLw_507 dLw_508 dLw_509 dLw_510 dLw_511 rfl ?_
  refine l_int (pc := 512) (pc' := 517) (j := 2) C hi (by omega) (by decide) dLw_512 dLw_513 dLw_514 dLw_515 dLw_516 rfl ?_
  refine l_call (μ := 116) (cN := 9) (idx := 50) (pc := 517) (pc' := 520) (as := [zi (xs (n + 1)), zi (xs (n + 2))]) (rest := []) C rfl rfl rfl (by decide +kernel) (by decide) (zok_is (l := [xs (n + 1), xs (n + 2)])) rfl (zi3 156 (by decide +kernel) (by decide +kernel)) ⟨by decide +kernel, by decide +kernel⟩ (by decide) rfl dLw_517 rfl (both_stands  M (fun o M1 => ∃ r, o = some r ∧ kdV 0 r ∧ zEv Γ 198 (zo 10 0 0 :: [zi (xs (n + 1)), zi (xs (n + 2))]) M1 (fun o M2 => o = some r ∧ Inv M2)) hI (fun r M1 h1 h2 => ⟨r, rfl, h1, h2⟩)) (fun o M1 hq => ?_)
  obtain ⟨r, rfl, ⟨v, rfl⟩, hE⟩ := hq
  refine l_a2 (pc := 520) (pc' := 521) C dLw_520 rfl ?_
  refine l_int (pc := 521) (pc' := 526) (j := 1) C hi (by omega) (by decide) dLw_521 dLw_522 dLw_523 dLw_524 dLw_525 rfl ?_
  refine l_int (pc := 526) (pc' := 531) (j := 2) C hi (by omega) (by decide) dLw_526 dLw_527 dLw_528 dLw_529 dLw_530 rfl ?_
  refine l_call (μ := 198) (cN := 10) (idx := 53) (pc := 531) (pc' := 534) (as := [zi (xs (n + 1)), zi (xs (n + 2))]) (rest := [.int v]) C rfl rfl rfl (by decide +kernel) (by decide) (zok_is (l := [xs (n + 1), xs (n + 2)])) rfl (zi6 193 (by decide +kernel) (by decide +kernel)) ⟨by decide +kernel, by decide +kernel⟩ (by show 1 ≤ 8; decide) rfl dLw_531 rfl hE (fun o M2 hq => ?_)
  obtain ⟨rfl, hI2⟩ := hq
  exact l_eqI (pc := 534) (tgt := 1698) C dLw_534 rfl (h M2 hI2)
theorem lc_pay {n : Nat} (C : lH Γ κ L xs) (hi : i = iz (n : Int)) (hL : n + 6 ≤ L) (hI : Inv M) (h : ∀ M2, Inv M2 → lJ Γ κ i 1698 [] M2) : lJ Γ κ i 539 [] M := by
  refine l_a1 (pc := 539) (pc' := 540) C dLw_539 rfl ?_
  refine l_int (pc := 540) (pc' := 545) (j := 1) C hi (by omega) (by decide) dLw_540 dLw_541 dLw_542 dLw_543 dLw_544 rfl ?_
  refine l_int (pc := 545) (pc' := 550) (j := 2) C hi (by omega) (by decide) dLw_545 dLw_546 dLw_547 dLw_548 dLw_549 rfl ?_
  refine l_int (pc := 550) (pc' := 555) (j := 3) C hi (by omega) (by decide) dLw_550 dLw_551 dLw_552 dLw_553 dLw_554 rfl ?_
  refine l_bool (pc := 555) (t1 := 562) (t2 := 563) C dLw_555 dLw_558 dLw_559 dLw_562 rfl rfl ?_
  refine l_call (μ := 117) (cN := 9) (idx := 54) (pc := 563) (pc' := 566) (as := [zi (xs (n + 1)), zi (xs (n + 2)), zi ((if xs (n + 3) = 0 then 0 else 1))]) (rest := []) C rfl rfl rfl (by decide +kernel) (by decide) (zok_is (l := [xs (n + 1), xs (n + 2), (if xs (n + 3) = 0 then 0 else 1)])) rfl (zi3 195 (by decide +kernel) (by decide +kernel)) ⟨by decide +kernel, by decide +kernel⟩ (by decide) rfl dLw_563 rfl (both_pay  M (fun o M1 => ∃ r, o = some r ∧ kdV 0 r ∧ zEv Γ 199 (zo 10 0 0 :: [zi (xs (n + 1)), zi (xs (n + 2)), zi ((if xs (n + 3) = 0 then 0 else 1))]) M1 (fun o M2 => o = some r ∧ Inv M2)) hI (fun r M1 h1 h2 => ⟨r, rfl, h1, h2⟩)) (fun o M1 hq => ?_)
  obtain ⟨r, rfl, ⟨v, rfl⟩, hE⟩ := hq
  refine l_a2 (pc := 566) (pc' := 567) C dLw_566 rfl ?_
  refine l_int (pc := 567) (pc' := 572) (j := 1) C hi (by omega) (by decide) dLw_567 dLw_568 dLw_569 dLw_570 dLw_571 rfl ?_
  refine l_int (pc := 572) (pc' := 577) (j := 2) C hi (by omega) (by decide) dLw_572 dLw_573 dLw_574 dLw_575 dLw_576 rfl ?_
  refine l_int (pc := 577) (pc' := 582) (j := 3) C hi (by omega) (by decide) dLw_577 dLw_578 dLw_579 dLw_580 dLw_581 rfl ?_
  refine l_bool (pc := 582) (t1 := 589) (t2 := 590) C dLw_582 dLw_585 dLw_586 dLw_589 rfl rfl ?_
  refine l_call (μ := 199) (cN := 10) (idx := 58) (pc := 590) (pc' := 593) (as := [zi (xs (n + 1)), zi (xs (n + 2)), zi ((if xs (n + 3) = 0 then 0 else 1))]) (rest := [.int v]) C rfl rfl rfl (by decide +kernel) (by decide) (zok_is (l := [xs (n + 1), xs (n + 2), (if xs (n + 3) = 0 then 0 else 1)])) rfl (zi6 231 (by decide +kernel) (by decide +kernel)) ⟨by decide +kernel, by decide +kernel⟩ (by show 1 ≤ 8; decide) rfl dLw_590 rfl hE (fun o M2 hq => ?_)
  obtain ⟨rfl, hI2⟩ := hq
  exact l_eqI (pc := 593) (tgt := 1698) C dLw_593 rfl (h M2 hI2)
theorem lc_take {n : Nat} (C : lH Γ κ L xs) (hi : i = iz (n : Int)) (hL : n + 6 ≤ L) (hI : Inv M) (h : ∀ M2, Inv M2 → lJ Γ κ i 1698 [] M2) : lJ Γ κ i 598 [] M := by
  refine l_a1 (pc := 598) (pc' := 599) C dLw_598 rfl ?_
  refine l_int (pc := 599) (pc' := 604) (j := 1) C hi (by omega) (by decide) dLw_599 dLw_600 dLw_601 dLw_602 dLw_603 rfl ?_
  refine l_call (μ := 118) (cN := 9) (idx := 59) (pc := 604) (pc' := 607) (as := [zi (xs (n + 1))]) (rest := []) C rfl rfl rfl (by decide +kernel) (by decide) (zok_is (l := [xs (n + 1)])) rfl (zi3 222 (by decide +kernel) (by decide +kernel)) ⟨by decide +kernel, by decide +kernel⟩ (by decide) rfl dLw_604 rfl (both_take  M (fun o M1 => ∃ r, o = some r ∧ kdV 0 r ∧ zEv Γ 201 (zo 10 0 0 :: [zi (xs (n + 1))]) M1 (fun o M2 => o = some r ∧ Inv M2)) hI (fun r M1 h1 h2 => ⟨r, rfl, h1, h2⟩)) (fun o M1 hq => ?_)
  obtain ⟨r, rfl, ⟨v, rfl⟩, hE⟩ := hq
  refine l_a2 (pc := 607) (pc' := 608) C dLw_607 rfl ?_
  refine l_int (pc := 608) (pc' := 613) (j := 1) C hi (by omega) (by decide) dLw_608 dLw_609 dLw_610 dLw_611 dLw_612 rfl ?_
  refine l_call (μ := 201) (cN := 10) (idx := 62) (pc := 613) (pc' := 616) (as := [zi (xs (n + 1))]) (rest := [.int v]) C rfl rfl rfl (by decide +kernel) (by decide) (zok_is (l := [xs (n + 1)])) rfl (zi7 4 (by decide +kernel) (by decide +kernel)) ⟨by decide +kernel, by decide +kernel⟩ (by show 1 ≤ 8; decide) rfl dLw_613 rfl hE (fun o M2 hq => ?_)
  obtain ⟨rfl, hI2⟩ := hq
  exact l_eqI (pc := 616) (tgt := 1698) C dLw_616 rfl (h M2 hI2)
theorem lc_rather {n : Nat} (C : lH Γ κ L xs) (hi : i = iz (n : Int)) (hL : n + 6 ≤ L) (hI : Inv M) (h : ∀ M2, Inv M2 → lJ Γ κ i 1698 [] M2) : lJ Γ κ i 621 [] M := by
  refine l_a1 (pc := 621) (pc' := 622) C dLw_621 rfl ?_
  refine l_int (pc := 622) (pc' := 627) (j := 1) C hi (by omega) (by decide) dLw_622 dLw_623 dLw_624 dLw_625 dLw_626 rfl ?_
  refine l_int (pc := 627) (pc' := 632) (j := 2) C hi (by omega) (by decide) dLw_627 dLw_628 dLw_629 dLw_630 dLw_631 rfl ?_
  refine l_bool (pc := 632) (t1 := 639) (t2 := 640) C dLw_632 dLw_635 dLw_636 dLw_639 rfl rfl ?_
  refine l_call (μ := 119) (cN := 9) (idx := 63) (pc := 640) (pc' := 643) (as := [zi (xs (n + 1)), zi ((if xs (n + 2) = 0 then 0 else 1))]) (rest := []) C rfl rfl rfl (by decide +kernel) (by decide) (zok_is (l := [xs (n + 1), (if xs (n + 2) = 0 then 0 else 1)])) rfl (zi3 230 (by decide +kernel) (by decide +kernel)) ⟨by decide +kernel, by decide +kernel⟩ (by decide) rfl dLw_640 rfl (both_rather  M (fun o M1 => ∃ r, o = some r ∧ kdV 0 r ∧ zEv Γ 202 (zo 10 0 0 :: [zi (xs (n + 1)), zi ((if xs (n + 2) = 0 then 0 else 1))]) M1 (fun o M2 => o = some r ∧ Inv M2)) hI (fun r M1 h1 h2 => ⟨r, rfl, h1, h2⟩)) (fun o M1 hq => ?_)
  obtain ⟨r, rfl, ⟨v, rfl⟩, hE⟩ := hq
  refine l_a2 (pc := 643) (pc' := 644) C dLw_643 rfl ?_
  refine l_int (pc := 644) (pc' := 649) (j := 1) C hi (by omega) (by decide) dLw_644 dLw_645 dLw_646 dLw_647 dLw_648 rfl ?_
  refine l_int (pc := 649) (pc' := 654) (j := 2) C hi (by omega) (by decide) dLw_649 dLw_650 dLw_651 dLw_652 dLw_653 rfl ?_
  refine l_bool (pc := 654) (t1 := 661) (t2 := 662) C dLw_654 dLw_657 dLw_658 dLw_661 rfl rfl ?_
  refine l_call (μ := 202) (cN := 10) (idx := 67) (pc := 662) (pc' := 665) (as := [zi (xs (n + 1)), zi ((if xs (n + 2) = 0 then 0 else 1))]) (rest := [.int v]) C rfl rfl rfl (by decide +kernel) (by decide) (zok_is (l := [xs (n + 1), (if xs (n + 2) = 0 then 0 else 1)])) rfl (zi7 12 (by decide +kernel) (by decide +kernel)) ⟨by decide +kernel, by decide +kernel⟩ (by show 1 ≤ 8; decide) rfl dLw_662 rfl hE (fun o M2 hq => ?_)
  obtain ⟨rfl, hI2⟩ := hq
  exact l_eqI (pc := 665) (tgt := 1698) C dLw_665 rfl (h M2 hI2)
theorem lc_reply {n : Nat} (C : lH Γ κ L xs) (hi : i = iz (n : Int)) (hL : n + 6 ≤ L) (hI : Inv M) (h : ∀ M2, Inv M2 → lJ Γ κ i 1698 [] M2) : lJ Γ κ i 670 [] M := by
  refine l_a1 (pc := 670) (pc' := 671) C dLw_670 rfl ?_
  refine l_int (pc := 671) (pc' := 676) (j := 1) C hi (by omega) (by decide) dLw_671 dLw_672 dLw_673 dLw_674 dLw_675 rfl ?_
  refine l_int (pc := 676) (pc' := 681) (j := 2) C hi (by omega) (by decide) dLw_676 dLw_677 dLw_678 dLw_679 dLw_680 rfl ?_
  refine l_call (μ := 120) (cN := 9) (idx := 68) (pc := 681) (pc' := 684) (as := [zi (xs (n + 1)), zi (xs (n + 2))]) (rest := []) C rfl rfl rfl (by decide +kernel) (by decide) (zok_is (l := [xs (n + 1), xs (n + 2)])) rfl (zi3 239 (by decide +kernel) (by decide +kernel)) ⟨by decide +kernel, by decide +kernel⟩ (by decide) rfl dLw_681 rfl (both_reply  M (fun o M1 => ∃ r, o = some r ∧ kdV 0 r ∧ zEv Γ 204 (zo 10 0 0 :: [zi (xs (n + 1)), zi (xs (n + 2))]) M1 (fun o M2 => o = some r ∧ Inv M2)) hI (fun r M1 h1 h2 => ⟨r, rfl, h1, h2⟩)) (fun o M1 hq => ?_)
  obtain ⟨r, rfl, ⟨v, rfl⟩, hE⟩ := hq
  refine l_a2 (pc := 684) (pc' := 685) C dLw_684 rfl ?_
  refine l_int (pc := 685) (pc' := 690) (j := 1) C hi (by omega) (by decide) dLw_685 dLw_686 dLw_687 dLw_688 dLw_689 rfl ?_
  refine l_int (pc := 690) (pc' := 695) (j := 2) C hi (by omega) (by decide) dLw_690 dLw_691 dLw_692 dLw_693 dLw_694 rfl ?_
  refine l_call (μ := 204) (cN := 10) (idx := 71) (pc := 695) (pc' := 698) (as := [zi (xs (n + 1)), zi (xs (n + 2))]) (rest := [.int v]) C rfl rfl rfl (by decide +kernel) (by decide) (zok_is (l := [xs (n + 1), xs (n + 2)])) rfl (zi7 16 (by decide +kernel) (by decide +kernel)) ⟨by decide +kernel, by decide +kernel⟩ (by show 1 ≤ 8; decide) rfl dLw_695 rfl hE (fun o M2 hq => ?_)
  obtain ⟨rfl, hI2⟩ := hq
  exact l_eqI (pc := 698) (tgt := 1698) C dLw_698 rfl (h M2 hI2)
theorem lc_restless {n : Nat} (C : lH Γ κ L xs) (hi : i = iz (n : Int)) (hL : n + 6 ≤ L) (hI : Inv M) (h : ∀ M2, Inv M2 → lJ Γ κ i 1698 [] M2) : lJ Γ κ i 703 [] M := by
  refine l_a1 (pc := 703) (pc' := 704) C dLw_703 rfl ?_
  refine l_int (pc := 704) (pc' := 709) (j := 1) C hi (by omega) (by decide) dLw_704 dLw_705 dLw_706 dLw_707 dLw_708 rfl ?_
  refine l_call (μ := 121) (cN := 9) (idx := 72) (pc := 709) (pc' := 712) (as := [zi (xs (n + 1))]) (rest := []) C rfl rfl rfl (by decide +kernel) (by decide) (zok_is (l := [xs (n + 1)])) rfl (zi4 25 (by decide +kernel) (by decide +kernel)) ⟨by decide +kernel, by decide +kernel⟩ (by decide) rfl dLw_709 rfl (both_restless  M (fun o M1 => ∃ r, o = some r ∧ kdV 0 r ∧ zEv Γ 205 (zo 10 0 0 :: [zi (xs (n + 1))]) M1 (fun o M2 => o = some r ∧ Inv M2)) hI (fun r M1 h1 h2 => ⟨r, rfl, h1, h2⟩)) (fun o M1 hq => ?_)
  obtain ⟨r, rfl, ⟨v, rfl⟩, hE⟩ := hq
  refine l_a2 (pc := 712) (pc' := 713) C dLw_712 rfl ?_
  refine l_int (pc := 713) (pc' := 718) (j := 1) C hi (by omega) (by decide) dLw_713 dLw_714 dLw_715 dLw_716 dLw_717 rfl ?_
  refine l_call (μ := 205) (cN := 10) (idx := 75) (pc := 718) (pc' := 721) (as := [zi (xs (n + 1))]) (rest := [.int v]) C rfl rfl rfl (by decide +kernel) (by decide) (zok_is (l := [xs (n + 1)])) rfl (zi7 24 (by decide +kernel) (by decide +kernel)) ⟨by decide +kernel, by decide +kernel⟩ (by show 1 ≤ 8; decide) rfl dLw_718 rfl hE (fun o M2 hq => ?_)
  obtain ⟨rfl, hI2⟩ := hq
  exact l_eqI (pc := 721) (tgt := 1698) C dLw_721 rfl (h M2 hI2)
theorem lc_replies {n : Nat} (C : lH Γ κ L xs) (hi : i = iz (n : Int)) (hL : n + 6 ≤ L) (hI : Inv M) (h : ∀ M2, Inv M2 → lJ Γ κ i 1698 [] M2) : lJ Γ κ i 726 [] M := by
  refine l_a1 (pc := 726) (pc' := 727) C dLw_726 rfl ?_
  refine l_int (pc := 727) (pc' := 732) (j := 1) C hi (by omega) (by decide) dLw_727 dLw_728 dLw_729 dLw_730 dLw_731 rfl ?_
  refine l_int (pc := 732) (pc' := 737) (j := 2) C hi (by omega) (by decide) dLw_732 dLw_733 dLw_734 dLw_735 dLw_736 rfl ?_
  refine l_call (μ := 122) (cN := 9) (idx := 76) (pc := 737) (pc' := 740) (as := [zi (xs (n + 1)), zi (xs (n + 2))]) (rest := []) C rfl rfl rfl (by decide +kernel) (by decide) (zok_is (l := [xs (n + 1), xs (n + 2)])) rfl (zi4 34 (by decide +kernel) (by decide +kernel)) ⟨by decide +kernel, by decide +kernel⟩ (by decide) rfl dLw_737 rfl (both_replies  M (fun o M1 => ∃ r, o = some r ∧ kdV 0 r ∧ zEv Γ 208 (zo 10 0 0 :: [zi (xs (n + 1)), zi (xs (n + 2))]) M1 (fun o M2 => o = some r ∧ Inv M2)) hI (fun r M1 h1 h2 => ⟨r, rfl, h1, h2⟩)) (fun o M1 hq => ?_)
  obtain ⟨r, rfl, ⟨v, rfl⟩, hE⟩ := hq
  refine l_a2 (pc := 740) (pc' := 741) C dLw_740 rfl ?_
  refine l_int (pc := 741) (pc' := 746) (j := 1) C hi (by omega) (by decide) dLw_741 dLw_742 dLw_743 dLw_744 dLw_745 rfl ?_
  refine l_int (pc := 746) (pc' := 751) (j := 2) C hi (by omega) (by decide) dLw_746 dLw_747 dLw_748 dLw_749 dLw_750 rfl ?_
  refine l_call (μ := 208) (cN := 10) (idx := 79) (pc := 751) (pc' := 754) (as := [zi (xs (n + 1)), zi (xs (n + 2))]) (rest := [.int v]) C rfl rfl rfl (by decide +kernel) (by decide) (zok_is (l := [xs (n + 1), xs (n + 2)])) rfl (zi7 28 (by decide +kernel) (by decide +kernel)) ⟨by decide +kernel, by decide +kernel⟩ (by show 1 ≤ 8; decide) rfl dLw_751 rfl hE (fun o M2 hq => ?_)
  obtain ⟨rfl, hI2⟩ := hq
  exact l_eqI (pc := 754) (tgt := 1698) C dLw_754 rfl (h M2 hI2)
theorem lc_rests {n : Nat} (C : lH Γ κ L xs) (hi : i = iz (n : Int)) (hL : n + 6 ≤ L) (hI : Inv M) (h : ∀ M2, Inv M2 → lJ Γ κ i 1698 [] M2) : lJ Γ κ i 759 [] M := by
  refine l_a1 (pc := 759) (pc' := 760) C dLw_759 rfl ?_
  refine l_int (pc := 760) (pc' := 765) (j := 1) C hi (by omega) (by decide) dLw_760 dLw_761 dLw_762 dLw_763 dLw_764 rfl ?_
  refine l_int (pc := 765) (pc' := 770) (j := 2) C hi (by omega) (by decide) dLw_765 dLw_766 dLw_767 dLw_768 dLw_769 rfl ?_
  refine l_call (μ := 123) (cN := 9) (idx := 80) (pc := 770) (pc' := 773) (as := [zi (xs (n + 1)), zi (xs (n + 2))]) (rest := []) C rfl rfl rfl (by decide +kernel) (by decide) (zok_is (l := [xs (n + 1), xs (n + 2)])) rfl (zi4 54 (by decide +kernel) (by decide +kernel)) ⟨by decide +kernel, by decide +kernel⟩ (by decide) rfl dLw_770 rfl (both_rests  M (fun o M1 => ∃ r, o = some r ∧ kdV 0 r ∧ zEv Γ 212 (zo 10 0 0 :: [zi (xs (n + 1)), zi (xs (n + 2))]) M1 (fun o M2 => o = some r ∧ Inv M2)) hI (fun r M1 h1 h2 => ⟨r, rfl, h1, h2⟩)) (fun o M1 hq => ?_)
  obtain ⟨r, rfl, ⟨v, rfl⟩, hE⟩ := hq
  refine l_a2 (pc := 773) (pc' := 774) C dLw_773 rfl ?_
  refine l_int (pc := 774) (pc' := 779) (j := 1) C hi (by omega) (by decide) dLw_774 dLw_775 dLw_776 dLw_777 dLw_778 rfl ?_
  refine l_int (pc := 779) (pc' := 784) (j := 2) C hi (by omega) (by decide) dLw_779 dLw_780 dLw_781 dLw_782 dLw_783 rfl ?_
  refine l_call (μ := 212) (cN := 10) (idx := 83) (pc := 784) (pc' := 787) (as := [zi (xs (n + 1)), zi (xs (n + 2))]) (rest := [.int v]) C rfl rfl rfl (by decide +kernel) (by decide) (zok_is (l := [xs (n + 1), xs (n + 2)])) rfl (zi7 40 (by decide +kernel) (by decide +kernel)) ⟨by decide +kernel, by decide +kernel⟩ (by show 1 ≤ 8; decide) rfl dLw_784 rfl hE (fun o M2 hq => ?_)
  obtain ⟨rfl, hI2⟩ := hq
  exact l_eqI (pc := 787) (tgt := 1698) C dLw_787 rfl (h M2 hI2)
theorem lc_rest {n : Nat} (C : lH Γ κ L xs) (hi : i = iz (n : Int)) (hL : n + 6 ≤ L) (hI : Inv M) (h : ∀ M2, Inv M2 → lJ Γ κ i 1698 [] M2) : lJ Γ κ i 792 [] M := by
  refine l_a1 (pc := 792) (pc' := 793) C dLw_792 rfl ?_
  refine l_int (pc := 793) (pc' := 798) (j := 1) C hi (by omega) (by decide) dLw_793 dLw_794 dLw_795 dLw_796 dLw_797 rfl ?_
  refine l_int (pc := 798) (pc' := 803) (j := 2) C hi (by omega) (by decide) dLw_798 dLw_799 dLw_800 dLw_801 dLw_802 rfl ?_
  refine l_int (pc := 803) (pc' := 808) (j := 3) C hi (by omega) (by decide) dLw_803 dLw_804 dLw_805 dLw_806 dLw_807 rfl ?_
  refine l_int (pc := 808) (pc' := 813) (j := 4) C hi (by omega) (by decide) dLw_808 dLw_809 dLw_810 dLw_811 dLw_812 rfl ?_
  refine l_call (μ := 124) (cN := 9) (idx := 84) (pc := 813) (pc' := 816) (as := [zi (xs (n + 1)), zi (xs (n + 2)), zi (xs (n + 3)), zi (xs (n + 4))]) (rest := []) C rfl rfl rfl (by decide +kernel) (by decide) (zok_is (l := [xs (n + 1), xs (n + 2), xs (n + 3), xs (n + 4)])) rfl (zi4 70 (by decide +kernel) (by decide +kernel)) ⟨by decide +kernel, by decide +kernel⟩ (by decide) rfl dLw_813 rfl (both_rest  M (fun o M1 => ∃ r, o = some r ∧ kdV 0 r ∧ zEv Γ 213 (zo 10 0 0 :: [zi (xs (n + 1)), zi (xs (n + 2)), zi (xs (n + 3)), zi (xs (n + 4))]) M1 (fun o M2 => o = some r ∧ Inv M2)) hI (fun r M1 h1 h2 => ⟨r, rfl, h1, h2⟩)) (fun o M1 hq => ?_)
  obtain ⟨r, rfl, ⟨v, rfl⟩, hE⟩ := hq
  refine l_a2 (pc := 816) (pc' := 817) C dLw_816 rfl ?_
  refine l_int (pc := 817) (pc' := 822) (j := 1) C hi (by omega) (by decide) dLw_817 dLw_818 dLw_819 dLw_820 dLw_821 rfl ?_
  refine l_int (pc := 822) (pc' := 827) (j := 2) C hi (by omega) (by decide) dLw_822 dLw_823 dLw_824 dLw_825 dLw_826 rfl ?_
  refine l_int (pc := 827) (pc' := 832) (j := 3) C hi (by omega) (by decide) dLw_827 dLw_828 dLw_829 dLw_830 dLw_831 rfl ?_
  refine l_int (pc := 832) (pc' := 837) (j := 4) C hi (by omega) (by decide) dLw_832 dLw_833 dLw_834 dLw_835 dLw_836 rfl ?_
  refine l_call (μ := 213) (cN := 10) (idx := 88) (pc := 837) (pc' := 840) (as := [zi (xs (n + 1)), zi (xs (n + 2)), zi (xs (n + 3)), zi (xs (n + 4))]) (rest := [.int v]) C rfl rfl rfl (by decide +kernel) (by decide) (zok_is (l := [xs (n + 1), xs (n + 2), xs (n + 3), xs (n + 4)])) rfl (zi7 56 (by decide +kernel) (by decide +kernel)) ⟨by decide +kernel, by decide +kernel⟩ (by show 1 ≤ 8; decide) rfl dLw_837 rfl hE (fun o M2 hq => ?_)
  obtain ⟨rfl, hI2⟩ := hq
  exact l_eqI (pc := 840) (tgt := 1698) C dLw_840 rfl (h M2 hI2)
theorem lc_best {n : Nat} (C : lH Γ κ L xs) (hi : i = iz (n : Int)) (hL : n + 6 ≤ L) (hI : Inv M) (h : ∀ M2, Inv M2 → lJ Γ κ i 1698 [] M2) : lJ Γ κ i 845 [] M := by
  refine l_a1 (pc := 845) (pc' := 846) C dLw_845 rfl ?_
  refine l_int (pc := 846) (pc' := 851) (j := 1) C hi (by omega) (by decide) dLw_846 dLw_847 dLw_848 dLw_849 dLw_850 rfl ?_
  refine l_int (pc := 851) (pc' := 856) (j := 2) C hi (by omega) (by decide) dLw_851 dLw_852 dLw_853 dLw_854 dLw_855 rfl ?_
  refine l_call (μ := 125) (cN := 9) (idx := 89) (pc := 856) (pc' := 859) (as := [zi (xs (n + 1)), zi (xs (n + 2))]) (rest := []) C rfl rfl rfl (by decide +kernel) (by decide) (zok_is (l := [xs (n + 1), xs (n + 2)])) rfl (zi4 74 (by decide +kernel) (by decide +kernel)) ⟨by decide +kernel, by decide +kernel⟩ (by decide) rfl dLw_856 rfl (both_best  M (fun o M1 => ∃ r, o = some r ∧ kdV 0 r ∧ zEv Γ 218 (zo 10 0 0 :: [zi (xs (n + 1)), zi (xs (n + 2))]) M1 (fun o M2 => o = some r ∧ Inv M2)) hI (fun r M1 h1 h2 => ⟨r, rfl, h1, h2⟩)) (fun o M1 hq => ?_)
  obtain ⟨r, rfl, ⟨v, rfl⟩, hE⟩ := hq
  refine l_a2 (pc := 859) (pc' := 860) C dLw_859 rfl ?_
  refine l_int (pc := 860) (pc' := 865) (j := 1) C hi (by omega) (by decide) dLw_860 dLw_861 dLw_862 dLw_863 dLw_864 rfl ?_
  refine l_int (pc := 865) (pc' := 870) (j := 2) C hi (by omega) (by decide) dLw_865 dLw_866 dLw_867 dLw_868 dLw_869 rfl ?_
  refine l_call (μ := 218) (cN := 10) (idx := 92) (pc := 870) (pc' := 873) (as := [zi (xs (n + 1)), zi (xs (n + 2))]) (rest := [.int v]) C rfl rfl rfl (by decide +kernel) (by decide) (zok_is (l := [xs (n + 1), xs (n + 2)])) rfl (zi7 60 (by decide +kernel) (by decide +kernel)) ⟨by decide +kernel, by decide +kernel⟩ (by show 1 ≤ 8; decide) rfl dLw_870 rfl hE (fun o M2 hq => ?_)
  obtain ⟨rfl, hI2⟩ := hq
  exact l_eqI (pc := 873) (tgt := 1698) C dLw_873 rfl (h M2 hI2)
theorem lc_even {n : Nat} (C : lH Γ κ L xs) (hi : i = iz (n : Int)) (hL : n + 6 ≤ L) (hI : Inv M) (h : ∀ M2, Inv M2 → lJ Γ κ i 1698 [] M2) : lJ Γ κ i 878 [] M := by
  refine l_a1 (pc := 878) (pc' := 879) C dLw_878 rfl ?_
  refine l_int (pc := 879) (pc' := 884) (j := 1) C hi (by omega) (by decide) dLw_879 dLw_880 dLw_881 dLw_882 dLw_883 rfl ?_
  refine l_int (pc := 884) (pc' := 889) (j := 2) C hi (by omega) (by decide) dLw_884 dLw_885 dLw_886 dLw_887 dLw_888 rfl ?_
  refine l_int (pc := 889) (pc' := 894) (j := 3) C hi (by omega) (by decide) dLw_889 dLw_890 dLw_891 dLw_892 dLw_893 rfl ?_
  refine l_bool (pc := 894) (t1 := 901) (t2 := 902) C dLw_894 dLw_897 dLw_898 dLw_901 rfl rfl ?_
  refine l_call (μ := 126) (cN := 9) (idx := 93) (pc := 902) (pc' := 905) (as := [zi (xs (n + 1)), zi (xs (n + 2)), zi ((if xs (n + 3) = 0 then 0 else 1))]) (rest := []) C rfl rfl rfl (by decide +kernel) (by decide) (zok_is (l := [xs (n + 1), xs (n + 2), (if xs (n + 3) = 0 then 0 else 1)])) rfl (zi4 140 (by decide +kernel) (by decide +kernel)) ⟨by decide +kernel, by decide +kernel⟩ (by decide) rfl dLw_902 rfl (both_even  M (fun o M1 => ∃ r, o = some r ∧ kdV 0 r ∧ zEv Γ 219 (zo 10 0 0 :: [zi (xs (n + 1)), zi (xs (n + 2)), zi ((if xs (n + 3) = 0 then 0 else 1))]) M1 (fun o M2 => o = some r ∧ Inv M2)) hI (fun r M1 h1 h2 => ⟨r, rfl, h1, h2⟩)) (fun o M1 hq => ?_)
  obtain ⟨r, rfl, ⟨v, rfl⟩, hE⟩ := hq
  refine l_a2 (pc := 905) (pc' := 906) C dLw_905 rfl ?_
  refine l_int (pc := 906) (pc' := 911) (j := 1) C hi (by omega) (by decide) dLw_906 dLw_907 dLw_908 dLw_909 dLw_910 rfl ?_
  refine l_int (pc := 911) (pc' := 916) (j := 2) C hi (by omega) (by decide) dLw_911 dLw_912 dLw_913 dLw_914 dLw_915 rfl ?_
  refine l_int (pc := 916) (pc' := 921) (j := 3) C hi (by omega) (by decide) dLw_916 dLw_917 dLw_918 dLw_919 dLw_920 rfl ?_
  refine l_bool (pc := 921) (t1 := 928) (t2 := 929) C dLw_921 dLw_924 dLw_925 dLw_928 rfl rfl ?_
  refine l_call (μ := 219) (cN := 10) (idx := 96) (pc := 929) (pc' := 932) (as := [zi (xs (n + 1)), zi (xs (n + 2)), zi ((if xs (n + 3) = 0 then 0 else 1))]) (rest := [.int v]) C rfl rfl rfl (by decide +kernel) (by decide) (zok_is (l := [xs (n + 1), xs (n + 2), (if xs (n + 3) = 0 then 0 else 1)])) rfl (zi7 76 (by decide +kernel) (by decide +kernel)) ⟨by decide +kernel, by decide +kernel⟩ (by show 1 ≤ 8; decide) rfl dLw_929 rfl hE (fun o M2 hq => ?_)
  obtain ⟨rfl, hI2⟩ := hq
  exact l_eqI (pc := 932) (tgt := 1698) C dLw_932 rfl (h M2 hI2)
theorem lc_truly {n : Nat} (C : lH Γ κ L xs) (hi : i = iz (n : Int)) (hL : n + 6 ≤ L) (hI : Inv M) (h : ∀ M2, Inv M2 → lJ Γ κ i 1698 [] M2) : lJ Γ κ i 937 [] M := by
  refine l_a1 (pc := 937) (pc' := 938) C dLw_937 rfl ?_
  refine l_int (pc := 938) (pc' := 943) (j := 1) C hi (by omega) (by decide) dLw_938 dLw_939 dLw_940 dLw_941 dLw_942 rfl ?_
  refine l_int (pc := 943) (pc' := 948) (j := 2) C hi (by omega) (by decide) dLw_943 dLw_944 dLw_945 dLw_946 dLw_947 rfl ?_
  refine l_call (μ := 127) (cN := 9) (idx := 97) (pc := 948) (pc' := 951) (as := [zi (xs (n + 1)), zi (xs (n + 2))]) (rest := []) C rfl rfl rfl (by decide +kernel) (by decide) (zok_is (l := [xs (n + 1), xs (n + 2)])) rfl (zi4 152 (by decide +kernel) (by decide +kernel)) ⟨by decide +kernel, by decide +kernel⟩ (by decide) rfl dLw_948 rfl (both_truly  M (fun o M1 => ∃ r, o = some r ∧ kdV 0 r ∧ zEv Γ 220 (zo 10 0 0 :: [zi (xs (n + 1)), zi (xs (n + 2))]) M1 (fun o M2 => o = some r ∧ Inv M2)) hI (fun r M1 h1 h2 => ⟨r, rfl, h1, h2⟩)) (fun o M1 hq => ?_)
  obtain ⟨r, rfl, ⟨v, rfl⟩, hE⟩ := hq
  refine l_a2 (pc := 951) (pc' := 952) C dLw_951 rfl ?_
  refine l_int (pc := 952) (pc' := 957) (j := 1) C hi (by omega) (by decide) dLw_952 dLw_953 dLw_954 dLw_955 dLw_956 rfl ?_
  refine l_int (pc := 957) (pc' := 962) (j := 2) C hi (by omega) (by decide) dLw_957 dLw_958 dLw_959 dLw_960 dLw_961 rfl ?_
  refine l_call (μ := 220) (cN := 10) (idx := 100) (pc := 962) (pc' := 965) (as := [zi (xs (n + 1)), zi (xs (n + 2))]) (rest := [.int v]) C rfl rfl rfl (by decide +kernel) (by decide) (zok_is (l := [xs (n + 1), xs (n + 2)])) rfl (zi7 80 (by decide +kernel) (by decide +kernel)) ⟨by decide +kernel, by decide +kernel⟩ (by show 1 ≤ 8; decide) rfl dLw_962 rfl hE (fun o M2 hq => ?_)
  obtain ⟨rfl, hI2⟩ := hq
  exact l_eqI (pc := 965) (tgt := 1698) C dLw_965 rfl (h M2 hI2)
end Zb6
