/-! the law's loop -/
theorem pm_scrG {d : Nat} {M : pmM} {pc : Nat} {ls : List (Option Value)} {st : List Value} {m : pmMem} {Q : Option Value → pmMem → Prop} (h : pm_G d M pc ls st m (fun r m' => m'.2.1 88 = m.2.1 88 → Q r m')) : pm_G d M pc ls st m Q := by
  intro X p l e R s mid args below meth c H locs cells slots QQ lsK hC hR hH hl hret
  refine h X p l e R s mid args below meth c H locs cells slots QQ lsK hC hR hH hl (fun H1 locs1 m1 pc1 ls1 r hq hH1 hrt => hret H1 locs1 m1 pc1 ls1 r (hq ?_) hH1 hrt)
  obtain ⟨a1, a2⟩ := hH.2.2.2
  obtain ⟨b1, b2⟩ := hH1.2.2.2
  apply List.ext_getElem?
  intro j
  have e1 : (m1.2.1 88).length = (m.2.1 88).length := b1.symm.trans a1
  have e2 : (m1.2.1 88).getD j 0 = (m.2.1 88).getD j 0 := congrFun (b2.symm.trans a2) j
  by_cases c : j < (m.2.1 88).length
  · rw [List.getD_eq_getElem?_getD, List.getD_eq_getElem?_getD, List.getElem?_eq_getElem c, List.getElem?_eq_getElem (by omega)] at e2
    rw [List.getElem?_eq_getElem c, List.getElem?_eq_getElem (by omega)]
    exact congrArg some e2
  · rw [List.getElem?_eq_none (by omega), List.getElem?_eq_none (by omega)]
theorem vin_j {i L : Nat} (j : Nat) (h : i + j < L) (hL : L ≤ 384) : vp_in (nI i + nI j) L := by
  rw [nI_add]; exact ni_in h (by omega)
section LAW
variable {d : Nat} {m : pmMem} {Q : Option Value → pmMem → Prop} {S : Sg} {i : Nat}
theorem law_0 (hC : RC S m) (hR : RR S m) (hi : i + 6 ≤ (m.2.1 88).length) (hl : (m.2.1 88).length ≤ 384) (K : ∀ S' m', RC S' m' → RR S' m' → m'.2.1 88 = m.2.1 88 → pm_G (d + 17) mL_law 1372 [some (.ref 88), some (.ref 0), some (.ref 65), some (.int (nI i))] [] m' Q) : pm_G (d + 17) mL_law 220 [some (.ref 88), some (.ref 0), some (.ref 65), some (.int (nI i))] [] m Q := by
  have v1 : vp_in (nI i + 1) (m.2.1 88).length := vin_j 1 (by omega) hl
  have v2 : vp_in (nI i + 2) (m.2.1 88).length := vin_j 2 (by omega) hl
  refine sL_law_220 (sL_law_221 (sL_law_222 (sL_law_223 (sL_law_224 (sL_law_225 (sL_law_226 (sL_law_227 (sL_law_228 (sL_law_229 (sL_law_230 (sL_law_231 (pm_scrG (C_row hC (fun m1 h1 a1 e1 => ?_)))) (hin := v2)))))) (hin := v1))))))
  have w1 : vp_in (nI i + 1) (m1.2.1 88).length := by rw [e1]; exact v1
  have w2 : vp_in (nI i + 2) (m1.2.1 88).length := by rw [e1]; exact v2
  refine sL_law_234 (sL_law_235 (sL_law_236 (sL_law_237 (sL_law_238 (sL_law_239 (sL_law_240 (sL_law_241 (sL_law_242 (sL_law_243 (sL_law_244 (?_) (hin := w2)))))) (hin := w1))))))
  rw [e1]
  refine sL_law_245 (pm_scrG (R_row (RR_frame hR a1) (fun m2 h2 a2 e2 => ?_)))
  exact sL_law_248 (fun _ => K _ m2 (RC_frame h1 a2) h2 (e2.trans e1)) (fun z => absurd rfl z)
theorem law_1 (hC : RC S m) (hR : RR S m) (hi : i + 6 ≤ (m.2.1 88).length) (hl : (m.2.1 88).length ≤ 384) (K : ∀ S' m', RC S' m' → RR S' m' → m'.2.1 88 = m.2.1 88 → pm_G (d + 17) mL_law 1372 [some (.ref 88), some (.ref 0), some (.ref 65), some (.int (nI i))] [] m' Q) : pm_G (d + 17) mL_law 253 [some (.ref 88), some (.ref 0), some (.ref 65), some (.int (nI i))] [] m Q := by
  have v1 : vp_in (nI i + 1) (m.2.1 88).length := vin_j 1 (by omega) hl
  have v2 : vp_in (nI i + 2) (m.2.1 88).length := vin_j 2 (by omega) hl
  have v3 : vp_in (nI i + 3) (m.2.1 88).length := vin_j 3 (by omega) hl
  refine sL_law_253 (sL_law_254 (sL_law_255 (sL_law_256 (sL_law_257 (sL_law_258 (sL_law_259 (sL_law_260 (sL_law_261 (sL_law_262 (sL_law_263 (sL_law_264 (sL_law_265 (sL_law_266 (sL_law_267 (sL_law_268 (sL_law_269 (pm_scrG (C_lay hC (fun m1 h1 a1 e1 => ?_)))) (hin := v3)))))) (hin := v2)))))) (hin := v1))))))
  have w1 : vp_in (nI i + 1) (m1.2.1 88).length := by rw [e1]; exact v1
  have w2 : vp_in (nI i + 2) (m1.2.1 88).length := by rw [e1]; exact v2
  have w3 : vp_in (nI i + 3) (m1.2.1 88).length := by rw [e1]; exact v3
  refine sL_law_272 (sL_law_273 (sL_law_274 (sL_law_275 (sL_law_276 (sL_law_277 (sL_law_278 (sL_law_279 (sL_law_280 (sL_law_281 (sL_law_282 (sL_law_283 (sL_law_284 (sL_law_285 (sL_law_286 (sL_law_287 (?_) (hin := w3)))))) (hin := w2)))))) (hin := w1))))))
  rw [e1]
  refine sL_law_288 (pm_scrG (R_lay (RR_frame hR a1) (fun m2 h2 a2 e2 => ?_)))
  exact sL_law_291 (fun _ => K _ m2 (RC_frame h1 a2) h2 (e2.trans e1)) (fun z => absurd rfl z)
theorem law_2 (hC : RC S m) (hR : RR S m) (hi : i + 6 ≤ (m.2.1 88).length) (hl : (m.2.1 88).length ≤ 384) (K : ∀ S' m', RC S' m' → RR S' m' → m'.2.1 88 = m.2.1 88 → pm_G (d + 17) mL_law 1372 [some (.ref 88), some (.ref 0), some (.ref 65), some (.int (nI i))] [] m' Q) : pm_G (d + 17) mL_law 296 [some (.ref 88), some (.ref 0), some (.ref 65), some (.int (nI i))] [] m Q := by
  have v1 : vp_in (nI i + 1) (m.2.1 88).length := vin_j 1 (by omega) hl
  have v2 : vp_in (nI i + 2) (m.2.1 88).length := vin_j 2 (by omega) hl
  refine sL_law_296 (sL_law_297 (sL_law_298 (sL_law_299 (sL_law_300 (sL_law_301 (sL_law_302 (sL_law_303 (sL_law_304 (sL_law_305 (sL_law_306 (sL_law_307 (pm_scrG (C_at hC (fun m1 h1 a1 e1 => ?_)))) (hin := v2)))))) (hin := v1))))))
  have w1 : vp_in (nI i + 1) (m1.2.1 88).length := by rw [e1]; exact v1
  have w2 : vp_in (nI i + 2) (m1.2.1 88).length := by rw [e1]; exact v2
  refine sL_law_310 (sL_law_311 (sL_law_312 (sL_law_313 (sL_law_314 (sL_law_315 (sL_law_316 (sL_law_317 (sL_law_318 (sL_law_319 (sL_law_320 (?_) (hin := w2)))))) (hin := w1))))))
  rw [e1]
  refine sL_law_321 (pm_scrG (R_at (RR_frame hR a1) (fun m2 h2 a2 e2 => ?_)))
  exact sL_law_324 (fun _ => K _ m2 (RC_frame h1 a2) h2 (e2.trans e1)) (fun z => absurd rfl z)
theorem law_3 (hC : RC S m) (hR : RR S m) (hi : i + 6 ≤ (m.2.1 88).length) (hl : (m.2.1 88).length ≤ 384) (K : ∀ S' m', RC S' m' → RR S' m' → m'.2.1 88 = m.2.1 88 → pm_G (d + 17) mL_law 1372 [some (.ref 88), some (.ref 0), some (.ref 65), some (.int (nI i))] [] m' Q) : pm_G (d + 17) mL_law 329 [some (.ref 88), some (.ref 0), some (.ref 65), some (.int (nI i))] [] m Q := by
  have v1 : vp_in (nI i + 1) (m.2.1 88).length := vin_j 1 (by omega) hl
  refine sL_law_329 (sL_law_330 (sL_law_331 (sL_law_332 (sL_law_333 (sL_law_334 (sL_law_335 (pm_scrG (C_tear hC (fun m1 h1 a1 e1 => ?_)))) (hin := v1))))))
  have w1 : vp_in (nI i + 1) (m1.2.1 88).length := by rw [e1]; exact v1
  refine sL_law_338 (sL_law_339 (sL_law_340 (sL_law_341 (sL_law_342 (sL_law_343 (?_) (hin := w1))))))
  rw [e1]
  refine sL_law_344 (pm_scrG (R_tear (RR_frame hR a1) (fun m2 h2 a2 e2 => ?_)))
  exact sL_law_347 (fun _ => K _ m2 (RC_frame h1 a2) h2 (e2.trans e1)) (fun z => absurd rfl z)
theorem law_4 (hC : RC S m) (hR : RR S m) (hi : i + 6 ≤ (m.2.1 88).length) (hl : (m.2.1 88).length ≤ 384) (K : ∀ S' m', RC S' m' → RR S' m' → m'.2.1 88 = m.2.1 88 → pm_G (d + 17) mL_law 1372 [some (.ref 88), some (.ref 0), some (.ref 65), some (.int (nI i))] [] m' Q) : pm_G (d + 17) mL_law 352 [some (.ref 88), some (.ref 0), some (.ref 65), some (.int (nI i))] [] m Q := by
  have v1 : vp_in (nI i + 1) (m.2.1 88).length := vin_j 1 (by omega) hl
  have v2 : vp_in (nI i + 2) (m.2.1 88).length := vin_j 2 (by omega) hl
  have v3 : vp_in (nI i + 3) (m.2.1 88).length := vin_j 3 (by omega) hl
  have v4 : vp_in (nI i + 4) (m.2.1 88).length := vin_j 4 (by omega) hl
  have v5 : vp_in (nI i + 5) (m.2.1 88).length := vin_j 5 (by omega) hl
  refine sL_law_352 (sL_law_353 (sL_law_354 (sL_law_355 (sL_law_356 (sL_law_357 (sL_law_358 (sL_law_359 (sL_law_360 (sL_law_361 (sL_law_362 (sL_law_363 (sL_law_364 (sL_law_365 (sL_law_366 (sL_law_367 (sL_law_368 (sL_law_369 (sL_law_370 (sL_law_371 (sL_law_372 (sL_law_373 (sL_law_374 (sL_law_375 (sL_law_376 (sL_law_377 (sL_law_378 (pm_scrG (C_copy hC (fun m1 h1 a1 e1 => ?_)))) (hin := v5)))))) (hin := v4)))))) (hin := v3)))))) (hin := v2)))))) (hin := v1))))))
  have w1 : vp_in (nI i + 1) (m1.2.1 88).length := by rw [e1]; exact v1
  have w2 : vp_in (nI i + 2) (m1.2.1 88).length := by rw [e1]; exact v2
  have w3 : vp_in (nI i + 3) (m1.2.1 88).length := by rw [e1]; exact v3
  have w4 : vp_in (nI i + 4) (m1.2.1 88).length := by rw [e1]; exact v4
  have w5 : vp_in (nI i + 5) (m1.2.1 88).length := by rw [e1]; exact v5
  refine sL_law_381 (sL_law_382 (sL_law_383 (sL_law_384 (sL_law_385 (sL_law_386 (sL_law_387 (sL_law_388 (sL_law_389 (sL_law_390 (sL_law_391 (sL_law_392 (sL_law_393 (sL_law_394 (sL_law_395 (sL_law_396 (sL_law_397 (sL_law_398 (sL_law_399 (sL_law_400 (sL_law_401 (sL_law_402 (sL_law_403 (sL_law_404 (sL_law_405 (sL_law_406 (?_) (hin := w5)))))) (hin := w4)))))) (hin := w3)))))) (hin := w2)))))) (hin := w1))))))
  rw [e1]
  refine sL_law_407 (pm_scrG (R_copy (RR_frame hR a1) (fun m2 h2 a2 e2 => ?_)))
  exact sL_law_410 (fun _ => K _ m2 (RC_frame h1 a2) h2 (e2.trans e1)) (fun z => absurd rfl z)
theorem law_5 (hC : RC S m) (hR : RR S m) (hi : i + 6 ≤ (m.2.1 88).length) (hl : (m.2.1 88).length ≤ 384) (K : ∀ S' m', RC S' m' → RR S' m' → m'.2.1 88 = m.2.1 88 → pm_G (d + 17) mL_law 1372 [some (.ref 88), some (.ref 0), some (.ref 65), some (.int (nI i))] [] m' Q) : pm_G (d + 17) mL_law 415 [some (.ref 88), some (.ref 0), some (.ref 65), some (.int (nI i))] [] m Q := by
  have v1 : vp_in (nI i + 1) (m.2.1 88).length := vin_j 1 (by omega) hl
  refine sL_law_415 (sL_law_416 (sL_law_417 (sL_law_418 (sL_law_419 (sL_law_420 (sL_law_421 (pm_scrG (C_mean hC (fun m1 h1 a1 e1 => ?_)))) (hin := v1))))))
  have w1 : vp_in (nI i + 1) (m1.2.1 88).length := by rw [e1]; exact v1
  refine sL_law_424 (sL_law_425 (sL_law_426 (sL_law_427 (sL_law_428 (sL_law_429 (?_) (hin := w1))))))
  rw [e1]
  refine sL_law_430 (pm_scrG (R_mean (RR_frame hR a1) (fun m2 h2 a2 e2 => ?_)))
  exact sL_law_433 (fun _ => K _ m2 (RC_frame h1 a2) h2 (e2.trans e1)) (fun z => absurd rfl z)
theorem law_6 (hC : RC S m) (hR : RR S m) (hi : i + 6 ≤ (m.2.1 88).length) (hl : (m.2.1 88).length ≤ 384) (K : ∀ S' m', RC S' m' → RR S' m' → m'.2.1 88 = m.2.1 88 → pm_G (d + 17) mL_law 1372 [some (.ref 88), some (.ref 0), some (.ref 65), some (.int (nI i))] [] m' Q) : pm_G (d + 17) mL_law 438 [some (.ref 88), some (.ref 0), some (.ref 65), some (.int (nI i))] [] m Q := by
  have v1 : vp_in (nI i + 1) (m.2.1 88).length := vin_j 1 (by omega) hl
  have v2 : vp_in (nI i + 2) (m.2.1 88).length := vin_j 2 (by omega) hl
  refine sL_law_438 (sL_law_439 (sL_law_440 (sL_law_441 (sL_law_442 (sL_law_443 (sL_law_444 (sL_law_445 (sL_law_446 (sL_law_447 (sL_law_448 (sL_law_449 (pm_scrG (C_text hC (fun m1 h1 a1 e1 => ?_)))) (hin := v2)))))) (hin := v1))))))
  have w1 : vp_in (nI i + 1) (m1.2.1 88).length := by rw [e1]; exact v1
  have w2 : vp_in (nI i + 2) (m1.2.1 88).length := by rw [e1]; exact v2
  refine sL_law_452 (sL_law_453 (sL_law_454 (sL_law_455 (sL_law_456 (sL_law_457 (sL_law_458 (sL_law_459 (sL_law_460 (sL_law_461 (sL_law_462 (?_) (hin := w2)))))) (hin := w1))))))
  rw [e1]
  refine sL_law_463 (pm_scrG (R_text (RR_frame hR a1) (fun m2 h2 a2 e2 => ?_)))
  exact sL_law_466 (fun _ => K _ m2 (RC_frame h1 a2) h2 (e2.trans e1)) (fun z => absurd rfl z)
theorem law_7 (hC : RC S m) (hR : RR S m) (hi : i + 6 ≤ (m.2.1 88).length) (hl : (m.2.1 88).length ≤ 384) (K : ∀ S' m', RC S' m' → RR S' m' → m'.2.1 88 = m.2.1 88 → pm_G (d + 17) mL_law 1372 [some (.ref 88), some (.ref 0), some (.ref 65), some (.int (nI i))] [] m' Q) : pm_G (d + 17) mL_law 471 [some (.ref 88), some (.ref 0), some (.ref 65), some (.int (nI i))] [] m Q := by
  have v1 : vp_in (nI i + 1) (m.2.1 88).length := vin_j 1 (by omega) hl
  have v2 : vp_in (nI i + 2) (m.2.1 88).length := vin_j 2 (by omega) hl
  have v3 : vp_in (nI i + 3) (m.2.1 88).length := vin_j 3 (by omega) hl
  refine sL_law_471 (sL_law_472 (sL_law_473 (sL_law_474 (sL_law_475 (sL_law_476 (sL_law_477 (sL_law_478 (sL_law_479 (sL_law_480 (sL_law_481 (sL_law_482 (sL_law_483 (sL_law_484 (sL_law_485 (sL_law_486 (sL_law_487 (pm_scrG (C_put hC (fun m1 h1 a1 e1 => ?_)))) (hin := v3)))))) (hin := v2)))))) (hin := v1))))))
  have w1 : vp_in (nI i + 1) (m1.2.1 88).length := by rw [e1]; exact v1
  have w2 : vp_in (nI i + 2) (m1.2.1 88).length := by rw [e1]; exact v2
  have w3 : vp_in (nI i + 3) (m1.2.1 88).length := by rw [e1]; exact v3
  refine sL_law_490 (sL_law_491 (sL_law_492 (sL_law_493 (sL_law_494 (sL_law_495 (sL_law_496 (sL_law_497 (sL_law_498 (sL_law_499 (sL_law_500 (sL_law_501 (sL_law_502 (sL_law_503 (sL_law_504 (sL_law_505 (?_) (hin := w3)))))) (hin := w2)))))) (hin := w1))))))
  rw [e1]
  refine sL_law_506 (pm_scrG (R_put (RR_frame hR a1) (fun m2 h2 a2 e2 => ?_)))
  exact sL_law_509 (fun _ => K _ m2 (RC_frame h1 a2) h2 (e2.trans e1)) (fun z => absurd rfl z)
theorem law_8 (hC : RC S m) (hR : RR S m) (hi : i + 6 ≤ (m.2.1 88).length) (hl : (m.2.1 88).length ≤ 384) (K : ∀ S' m', RC S' m' → RR S' m' → m'.2.1 88 = m.2.1 88 → pm_G (d + 17) mL_law 1372 [some (.ref 88), some (.ref 0), some (.ref 65), some (.int (nI i))] [] m' Q) : pm_G (d + 17) mL_law 514 [some (.ref 88), some (.ref 0), some (.ref 65), some (.int (nI i))] [] m Q := by
  have v1 : vp_in (nI i + 1) (m.2.1 88).length := vin_j 1 (by omega) hl
  refine sL_law_514 (sL_law_515 (sL_law_516 (sL_law_517 (sL_law_518 (sL_law_519 (sL_law_520 (pm_scrG (C_fault hC (fun m1 h1 a1 e1 => ?_)))) (hin := v1))))))
  have w1 : vp_in (nI i + 1) (m1.2.1 88).length := by rw [e1]; exact v1
  refine sL_law_523 (sL_law_524 (sL_law_525 (sL_law_526 (sL_law_527 (sL_law_528 (?_) (hin := w1))))))
  rw [e1]
  refine sL_law_529 (pm_scrG (R_fault (RR_frame hR a1) (fun m2 h2 a2 e2 => ?_)))
  exact sL_law_532 (fun _ => K _ m2 (RC_frame h1 a2) h2 (e2.trans e1)) (fun z => absurd rfl z)
theorem law_9 (hC : RC S m) (hR : RR S m) (hi : i + 6 ≤ (m.2.1 88).length) (hl : (m.2.1 88).length ≤ 384) (K : ∀ S' m', RC S' m' → RR S' m' → m'.2.1 88 = m.2.1 88 → pm_G (d + 17) mL_law 1372 [some (.ref 88), some (.ref 0), some (.ref 65), some (.int (nI i))] [] m' Q) : pm_G (d + 17) mL_law 537 [some (.ref 88), some (.ref 0), some (.ref 65), some (.int (nI i))] [] m Q := by
  have v1 : vp_in (nI i + 1) (m.2.1 88).length := vin_j 1 (by omega) hl
  refine sL_law_537 (sL_law_538 (sL_law_539 (sL_law_540 (sL_law_541 (sL_law_542 (sL_law_543 (pm_scrG (C_camp hC (fun m1 h1 a1 e1 => ?_)))) (hin := v1))))))
  have w1 : vp_in (nI i + 1) (m1.2.1 88).length := by rw [e1]; exact v1
  refine sL_law_546 (sL_law_547 (sL_law_548 (sL_law_549 (sL_law_550 (sL_law_551 (?_) (hin := w1))))))
  rw [e1]
  refine sL_law_552 (pm_scrG (R_camp (RR_frame hR a1) (fun m2 h2 a2 e2 => ?_)))
  exact sL_law_555 (fun _ => K _ m2 (RC_frame h1 a2) h2 (e2.trans e1)) (fun z => absurd rfl z)
theorem law_10 (hC : RC S m) (hR : RR S m) (hi : i + 6 ≤ (m.2.1 88).length) (hl : (m.2.1 88).length ≤ 384) (K : ∀ S' m', RC S' m' → RR S' m' → m'.2.1 88 = m.2.1 88 → pm_G (d + 17) mL_law 1372 [some (.ref 88), some (.ref 0), some (.ref 65), some (.int (nI i))] [] m' Q) : pm_G (d + 17) mL_law 560 [some (.ref 88), some (.ref 0), some (.ref 65), some (.int (nI i))] [] m Q := by
  have v1 : vp_in (nI i + 1) (m.2.1 88).length := vin_j 1 (by omega) hl
  have v2 : vp_in (nI i + 2) (m.2.1 88).length := vin_j 2 (by omega) hl
  refine sL_law_560 (sL_law_561 (sL_law_562 (sL_law_563 (sL_law_564 (sL_law_565 (sL_law_566 (sL_law_567 (sL_law_568 (sL_law_569 (sL_law_570 (sL_law_571 (pm_scrG (C_hill hC (fun m1 h1 a1 e1 => ?_)))) (hin := v2)))))) (hin := v1))))))
  have w1 : vp_in (nI i + 1) (m1.2.1 88).length := by rw [e1]; exact v1
  have w2 : vp_in (nI i + 2) (m1.2.1 88).length := by rw [e1]; exact v2
  refine sL_law_574 (sL_law_575 (sL_law_576 (sL_law_577 (sL_law_578 (sL_law_579 (sL_law_580 (sL_law_581 (sL_law_582 (sL_law_583 (sL_law_584 (?_) (hin := w2)))))) (hin := w1))))))
  rw [e1]
  refine sL_law_585 (pm_scrG (R_hill (RR_frame hR a1) (fun m2 h2 a2 e2 => ?_)))
  exact sL_law_588 (fun _ => K _ m2 (RC_frame h1 a2) h2 (e2.trans e1)) (fun z => absurd rfl z)
theorem law_11 (hC : RC S m) (hR : RR S m) (hi : i + 6 ≤ (m.2.1 88).length) (hl : (m.2.1 88).length ≤ 384) (K : ∀ S' m', RC S' m' → RR S' m' → m'.2.1 88 = m.2.1 88 → pm_G (d + 17) mL_law 1372 [some (.ref 88), some (.ref 0), some (.ref 65), some (.int (nI i))] [] m' Q) : pm_G (d + 17) mL_law 593 [some (.ref 88), some (.ref 0), some (.ref 65), some (.int (nI i))] [] m Q := by
  have v1 : vp_in (nI i + 1) (m.2.1 88).length := vin_j 1 (by omega) hl
  have v2 : vp_in (nI i + 2) (m.2.1 88).length := vin_j 2 (by omega) hl
  refine sL_law_593 (sL_law_594 (sL_law_595 (sL_law_596 (sL_law_597 (sL_law_598 (sL_law_599 (sL_law_600 (sL_law_601 (sL_law_602 (sL_law_603 (sL_law_604 (pm_scrG (C_tent hC (fun m1 h1 a1 e1 => ?_)))) (hin := v2)))))) (hin := v1))))))
  have w1 : vp_in (nI i + 1) (m1.2.1 88).length := by rw [e1]; exact v1
  have w2 : vp_in (nI i + 2) (m1.2.1 88).length := by rw [e1]; exact v2
  refine sL_law_607 (sL_law_608 (sL_law_609 (sL_law_610 (sL_law_611 (sL_law_612 (sL_law_613 (sL_law_614 (sL_law_615 (sL_law_616 (sL_law_617 (?_) (hin := w2)))))) (hin := w1))))))
  rw [e1]
  refine sL_law_618 (pm_scrG (R_tent (RR_frame hR a1) (fun m2 h2 a2 e2 => ?_)))
  exact sL_law_621 (fun _ => K _ m2 (RC_frame h1 a2) h2 (e2.trans e1)) (fun z => absurd rfl z)
theorem law_12 (hC : RC S m) (hR : RR S m) (hi : i + 6 ≤ (m.2.1 88).length) (hl : (m.2.1 88).length ≤ 384) (K : ∀ S' m', RC S' m' → RR S' m' → m'.2.1 88 = m.2.1 88 → pm_G (d + 17) mL_law 1372 [some (.ref 88), some (.ref 0), some (.ref 65), some (.int (nI i))] [] m' Q) : pm_G (d + 17) mL_law 626 [some (.ref 88), some (.ref 0), some (.ref 65), some (.int (nI i))] [] m Q := by
  have v1 : vp_in (nI i + 1) (m.2.1 88).length := vin_j 1 (by omega) hl
  have v2 : vp_in (nI i + 2) (m.2.1 88).length := vin_j 2 (by omega) hl
  refine sL_law_626 (sL_law_627 (sL_law_628 (sL_law_629 (sL_law_630 (sL_law_631 (sL_law_632 (sL_law_633 (sL_law_634 (sL_law_635 (sL_law_636 (sL_law_637 (pm_scrG (C_mark hC (fun m1 h1 a1 e1 => ?_)))) (hin := v2)))))) (hin := v1))))))
  have w1 : vp_in (nI i + 1) (m1.2.1 88).length := by rw [e1]; exact v1
  have w2 : vp_in (nI i + 2) (m1.2.1 88).length := by rw [e1]; exact v2
  refine sL_law_640 (sL_law_641 (sL_law_642 (sL_law_643 (sL_law_644 (sL_law_645 (sL_law_646 (sL_law_647 (sL_law_648 (sL_law_649 (sL_law_650 (?_) (hin := w2)))))) (hin := w1))))))
  rw [e1]
  refine sL_law_651 (pm_scrG (R_mark (RR_frame hR a1) (fun m2 h2 a2 e2 => ?_)))
  exact sL_law_654 (fun _ => K _ m2 (RC_frame h1 a2) h2 (e2.trans e1)) (fun z => absurd rfl z)
theorem law_13 (hC : RC S m) (hR : RR S m) (hi : i + 6 ≤ (m.2.1 88).length) (hl : (m.2.1 88).length ≤ 384) (K : ∀ S' m', RC S' m' → RR S' m' → m'.2.1 88 = m.2.1 88 → pm_G (d + 17) mL_law 1372 [some (.ref 88), some (.ref 0), some (.ref 65), some (.int (nI i))] [] m' Q) : pm_G (d + 17) mL_law 659 [some (.ref 88), some (.ref 0), some (.ref 65), some (.int (nI i))] [] m Q := by
  have v1 : vp_in (nI i + 1) (m.2.1 88).length := vin_j 1 (by omega) hl
  refine sL_law_659 (sL_law_660 (sL_law_661 (sL_law_662 (sL_law_663 (sL_law_664 (sL_law_665 (pm_scrG (C_speak hC (fun m1 h1 a1 e1 => ?_)))) (hin := v1))))))
  have w1 : vp_in (nI i + 1) (m1.2.1 88).length := by rw [e1]; exact v1
  refine sL_law_668 (sL_law_669 (sL_law_670 (sL_law_671 (sL_law_672 (sL_law_673 (?_) (hin := w1))))))
  rw [e1]
  refine sL_law_674 (pm_scrG (R_speak (RR_frame hR a1) (fun m2 h2 a2 e2 => ?_)))
  exact sL_law_677 (fun _ => K _ m2 (RC_frame h1 a2) h2 (e2.trans e1)) (fun z => absurd rfl z)
theorem law_14 (hC : RC S m) (hR : RR S m) (hi : i + 6 ≤ (m.2.1 88).length) (hl : (m.2.1 88).length ≤ 384) (K : ∀ S' m', RC S' m' → RR S' m' → m'.2.1 88 = m.2.1 88 → pm_G (d + 17) mL_law 1372 [some (.ref 88), some (.ref 0), some (.ref 65), some (.int (nI i))] [] m' Q) : pm_G (d + 17) mL_law 682 [some (.ref 88), some (.ref 0), some (.ref 65), some (.int (nI i))] [] m Q := by
  refine sL_law_682 (sL_law_683 (pm_scrG (C_day hC (fun m1 h1 a1 e1 => ?_))))
  refine sL_law_686 (?_)
  refine sL_law_687 (pm_scrG (R_day (RR_frame hR a1) (fun m2 h2 a2 e2 => ?_)))
  exact sL_law_690 (fun _ => K _ m2 (RC_frame h1 a2) h2 (e2.trans e1)) (fun z => absurd rfl z)
theorem law_15 (hC : RC S m) (hR : RR S m) (hi : i + 6 ≤ (m.2.1 88).length) (hl : (m.2.1 88).length ≤ 384) (K : ∀ S' m', RC S' m' → RR S' m' → m'.2.1 88 = m.2.1 88 → pm_G (d + 17) mL_law 1372 [some (.ref 88), some (.ref 0), some (.ref 65), some (.int (nI i))] [] m' Q) : pm_G (d + 17) mL_law 695 [some (.ref 88), some (.ref 0), some (.ref 65), some (.int (nI i))] [] m Q := by
  have v1 : vp_in (nI i + 1) (m.2.1 88).length := vin_j 1 (by omega) hl
  have v2 : vp_in (nI i + 2) (m.2.1 88).length := vin_j 2 (by omega) hl
  refine sL_law_695 (sL_law_696 (sL_law_697 (sL_law_698 (sL_law_699 (sL_law_700 (sL_law_701 (sL_law_702 (sL_law_703 (sL_law_704 (sL_law_705 (sL_law_706 (pm_scrG (C_change hC (fun m1 h1 a1 e1 => ?_)))) (hin := v2)))))) (hin := v1))))))
  have w1 : vp_in (nI i + 1) (m1.2.1 88).length := by rw [e1]; exact v1
  have w2 : vp_in (nI i + 2) (m1.2.1 88).length := by rw [e1]; exact v2
  refine sL_law_709 (sL_law_710 (sL_law_711 (sL_law_712 (sL_law_713 (sL_law_714 (sL_law_715 (sL_law_716 (sL_law_717 (sL_law_718 (sL_law_719 (?_) (hin := w2)))))) (hin := w1))))))
  rw [e1]
  refine sL_law_720 (pm_scrG (R_change (RR_frame hR a1) (fun m2 h2 a2 e2 => ?_)))
  exact sL_law_723 (fun _ => K _ m2 (RC_frame h1 a2) h2 (e2.trans e1)) (fun z => absurd rfl z)
theorem law_16 (hC : RC S m) (hR : RR S m) (hi : i + 6 ≤ (m.2.1 88).length) (hl : (m.2.1 88).length ≤ 384) (K : ∀ S' m', RC S' m' → RR S' m' → m'.2.1 88 = m.2.1 88 → pm_G (d + 17) mL_law 1372 [some (.ref 88), some (.ref 0), some (.ref 65), some (.int (nI i))] [] m' Q) : pm_G (d + 17) mL_law 728 [some (.ref 88), some (.ref 0), some (.ref 65), some (.int (nI i))] [] m Q := by
  have v1 : vp_in (nI i + 1) (m.2.1 88).length := vin_j 1 (by omega) hl
  refine sL_law_728 (sL_law_729 (sL_law_730 (sL_law_731 (sL_law_732 (sL_law_733 (sL_law_734 (pm_scrG (C_undo hC (fun m1 h1 a1 e1 => ?_)))) (hin := v1))))))
  have w1 : vp_in (nI i + 1) (m1.2.1 88).length := by rw [e1]; exact v1
  refine sL_law_737 (sL_law_738 (sL_law_739 (sL_law_740 (sL_law_741 (sL_law_742 (?_) (hin := w1))))))
  rw [e1]
  refine sL_law_743 (pm_scrG (R_undo (RR_frame hR a1) (fun m2 h2 a2 e2 => ?_)))
  exact sL_law_746 (fun _ => K _ m2 (RC_frame h1 a2) h2 (e2.trans e1)) (fun z => absurd rfl z)
theorem law_17 (hC : RC S m) (hR : RR S m) (hi : i + 6 ≤ (m.2.1 88).length) (hl : (m.2.1 88).length ≤ 384) (K : ∀ S' m', RC S' m' → RR S' m' → m'.2.1 88 = m.2.1 88 → pm_G (d + 17) mL_law 1372 [some (.ref 88), some (.ref 0), some (.ref 65), some (.int (nI i))] [] m' Q) : pm_G (d + 17) mL_law 751 [some (.ref 88), some (.ref 0), some (.ref 65), some (.int (nI i))] [] m Q := by
  have v1 : vp_in (nI i + 1) (m.2.1 88).length := vin_j 1 (by omega) hl
  refine sL_law_751 (sL_law_752 (sL_law_753 (sL_law_754 (sL_law_755 (sL_law_756 (sL_law_757 (pm_scrG (C_keep hC (fun m1 h1 a1 e1 => ?_)))) (hin := v1))))))
  have w1 : vp_in (nI i + 1) (m1.2.1 88).length := by rw [e1]; exact v1
  refine sL_law_760 (sL_law_761 (sL_law_762 (sL_law_763 (sL_law_764 (sL_law_765 (?_) (hin := w1))))))
  rw [e1]
  refine sL_law_766 (pm_scrG (R_keep (RR_frame hR a1) (fun m2 h2 a2 e2 => ?_)))
  exact sL_law_769 (fun _ => K _ m2 (RC_frame h1 a2) h2 (e2.trans e1)) (fun z => absurd rfl z)
theorem law_18 (hC : RC S m) (hR : RR S m) (hi : i + 6 ≤ (m.2.1 88).length) (hl : (m.2.1 88).length ≤ 384) (K : ∀ S' m', RC S' m' → RR S' m' → m'.2.1 88 = m.2.1 88 → pm_G (d + 17) mL_law 1372 [some (.ref 88), some (.ref 0), some (.ref 65), some (.int (nI i))] [] m' Q) : pm_G (d + 17) mL_law 774 [some (.ref 88), some (.ref 0), some (.ref 65), some (.int (nI i))] [] m Q := by
  have v1 : vp_in (nI i + 1) (m.2.1 88).length := vin_j 1 (by omega) hl
  refine sL_law_774 (sL_law_775 (sL_law_776 (sL_law_777 (sL_law_778 (sL_law_779 (sL_law_780 (pm_scrG (C_on hC (fun m1 h1 a1 e1 => ?_)))) (hin := v1))))))
  have w1 : vp_in (nI i + 1) (m1.2.1 88).length := by rw [e1]; exact v1
  refine sL_law_783 (sL_law_784 (sL_law_785 (sL_law_786 (sL_law_787 (sL_law_788 (?_) (hin := w1))))))
  rw [e1]
  refine sL_law_789 (pm_scrG (R_on (RR_frame hR a1) (fun m2 h2 a2 e2 => ?_)))
  exact sL_law_792 (fun _ => K _ m2 (RC_frame h1 a2) h2 (e2.trans e1)) (fun z => absurd rfl z)
theorem law_19 (hC : RC S m) (hR : RR S m) (hi : i + 6 ≤ (m.2.1 88).length) (hl : (m.2.1 88).length ≤ 384) (K : ∀ S' m', RC S' m' → RR S' m' → m'.2.1 88 = m.2.1 88 → pm_G (d + 17) mL_law 1372 [some (.ref 88), some (.ref 0), some (.ref 65), some (.int (nI i))] [] m' Q) : pm_G (d + 17) mL_law 797 [some (.ref 88), some (.ref 0), some (.ref 65), some (.int (nI i))] [] m Q := by
  have v1 : vp_in (nI i + 1) (m.2.1 88).length := vin_j 1 (by omega) hl
  have v2 : vp_in (nI i + 2) (m.2.1 88).length := vin_j 2 (by omega) hl
  refine sL_law_797 (sL_law_798 (sL_law_799 (sL_law_800 (sL_law_801 (sL_law_802 (sL_law_803 (sL_law_804 (sL_law_805 (sL_law_806 (sL_law_807 (sL_law_808 (pm_scrG (C_only hC (fun m1 h1 a1 e1 => ?_)))) (hin := v2)))))) (hin := v1))))))
  have w1 : vp_in (nI i + 1) (m1.2.1 88).length := by rw [e1]; exact v1
  have w2 : vp_in (nI i + 2) (m1.2.1 88).length := by rw [e1]; exact v2
  refine sL_law_811 (sL_law_812 (sL_law_813 (sL_law_814 (sL_law_815 (sL_law_816 (sL_law_817 (sL_law_818 (sL_law_819 (sL_law_820 (sL_law_821 (?_) (hin := w2)))))) (hin := w1))))))
  rw [e1]
  refine sL_law_822 (pm_scrG (R_only (RR_frame hR a1) (fun m2 h2 a2 e2 => ?_)))
  exact sL_law_825 (fun _ => K _ m2 (RC_frame h1 a2) h2 (e2.trans e1)) (fun z => absurd rfl z)
theorem law_20 (hC : RC S m) (hR : RR S m) (hi : i + 6 ≤ (m.2.1 88).length) (hl : (m.2.1 88).length ≤ 384) (K : ∀ S' m', RC S' m' → RR S' m' → m'.2.1 88 = m.2.1 88 → pm_G (d + 17) mL_law 1372 [some (.ref 88), some (.ref 0), some (.ref 65), some (.int (nI i))] [] m' Q) : pm_G (d + 17) mL_law 830 [some (.ref 88), some (.ref 0), some (.ref 65), some (.int (nI i))] [] m Q := by
  refine sL_law_830 (sL_law_831 (pm_scrG (C_hidden hC (fun m1 h1 a1 e1 => ?_))))
  refine sL_law_834 (?_)
  refine sL_law_835 (pm_scrG (R_hidden (RR_frame hR a1) (fun m2 h2 a2 e2 => ?_)))
  exact sL_law_838 (fun _ => K _ m2 (RC_frame h1 a2) h2 (e2.trans e1)) (fun z => absurd rfl z)
theorem law_21 (hC : RC S m) (hR : RR S m) (hi : i + 6 ≤ (m.2.1 88).length) (hl : (m.2.1 88).length ≤ 384) (K : ∀ S' m', RC S' m' → RR S' m' → m'.2.1 88 = m.2.1 88 → pm_G (d + 17) mL_law 1372 [some (.ref 88), some (.ref 0), some (.ref 65), some (.int (nI i))] [] m' Q) : pm_G (d + 17) mL_law 843 [some (.ref 88), some (.ref 0), some (.ref 65), some (.int (nI i))] [] m Q := by
  refine sL_law_843 (sL_law_844 (pm_scrG (C_fewest hC (fun m1 h1 a1 e1 => ?_))))
  refine sL_law_847 (?_)
  refine sL_law_848 (pm_scrG (R_fewest (RR_frame hR a1) (fun m2 h2 a2 e2 => ?_)))
  exact sL_law_851 (fun _ => K _ m2 (RC_frame h1 a2) h2 (e2.trans e1)) (fun z => absurd rfl z)
theorem law_22 (hC : RC S m) (hR : RR S m) (hi : i + 6 ≤ (m.2.1 88).length) (hl : (m.2.1 88).length ≤ 384) (K : ∀ S' m', RC S' m' → RR S' m' → m'.2.1 88 = m.2.1 88 → pm_G (d + 17) mL_law 1372 [some (.ref 88), some (.ref 0), some (.ref 65), some (.int (nI i))] [] m' Q) : pm_G (d + 17) mL_law 856 [some (.ref 88), some (.ref 0), some (.ref 65), some (.int (nI i))] [] m Q := by
  have v1 : vp_in (nI i + 1) (m.2.1 88).length := vin_j 1 (by omega) hl
  have v2 : vp_in (nI i + 2) (m.2.1 88).length := vin_j 2 (by omega) hl
  refine sL_law_856 (sL_law_857 (sL_law_858 (sL_law_859 (sL_law_860 (sL_law_861 (sL_law_862 (sL_law_863 (sL_law_864 (sL_law_865 (sL_law_866 (sL_law_867 (pm_scrG (C_waits hC (fun m1 h1 a1 e1 => ?_)))) (hin := v2)))))) (hin := v1))))))
  have w1 : vp_in (nI i + 1) (m1.2.1 88).length := by rw [e1]; exact v1
  have w2 : vp_in (nI i + 2) (m1.2.1 88).length := by rw [e1]; exact v2
  refine sL_law_870 (sL_law_871 (sL_law_872 (sL_law_873 (sL_law_874 (sL_law_875 (sL_law_876 (sL_law_877 (sL_law_878 (sL_law_879 (sL_law_880 (?_) (hin := w2)))))) (hin := w1))))))
  rw [e1]
  refine sL_law_881 (pm_scrG (R_waits (RR_frame hR a1) (fun m2 h2 a2 e2 => ?_)))
  exact sL_law_884 (fun _ => K _ m2 (RC_frame h1 a2) h2 (e2.trans e1)) (fun z => absurd rfl z)
theorem law_23 (hC : RC S m) (hR : RR S m) (hi : i + 6 ≤ (m.2.1 88).length) (hl : (m.2.1 88).length ≤ 384) (K : ∀ S' m', RC S' m' → RR S' m' → m'.2.1 88 = m.2.1 88 → pm_G (d + 17) mL_law 1372 [some (.ref 88), some (.ref 0), some (.ref 65), some (.int (nI i))] [] m' Q) : pm_G (d + 17) mL_law 889 [some (.ref 88), some (.ref 0), some (.ref 65), some (.int (nI i))] [] m Q := by
  have v1 : vp_in (nI i + 1) (m.2.1 88).length := vin_j 1 (by omega) hl
  refine sL_law_889 (sL_law_890 (sL_law_891 (sL_law_892 (sL_law_893 (sL_law_894 (sL_law_895 (pm_scrG (C_curse hC (fun m1 h1 a1 e1 => ?_)))) (hin := v1))))))
  have w1 : vp_in (nI i + 1) (m1.2.1 88).length := by rw [e1]; exact v1
  refine sL_law_898 (sL_law_899 (sL_law_900 (sL_law_901 (sL_law_902 (sL_law_903 (?_) (hin := w1))))))
  rw [e1]
  refine sL_law_904 (pm_scrG (R_curse (RR_frame hR a1) (fun m2 h2 a2 e2 => ?_)))
  exact sL_law_907 (fun _ => K _ m2 (RC_frame h1 a2) h2 (e2.trans e1)) (fun z => absurd rfl z)
theorem law_24 (hC : RC S m) (hR : RR S m) (hi : i + 6 ≤ (m.2.1 88).length) (hl : (m.2.1 88).length ≤ 384) (K : ∀ S' m', RC S' m' → RR S' m' → m'.2.1 88 = m.2.1 88 → pm_G (d + 17) mL_law 1372 [some (.ref 88), some (.ref 0), some (.ref 65), some (.int (nI i))] [] m' Q) : pm_G (d + 17) mL_law 912 [some (.ref 88), some (.ref 0), some (.ref 65), some (.int (nI i))] [] m Q := by
  have v1 : vp_in (nI i + 1) (m.2.1 88).length := vin_j 1 (by omega) hl
  refine sL_law_912 (sL_law_913 (sL_law_914 (sL_law_915 (sL_law_916 (sL_law_917 (sL_law_918 (pm_scrG (C_spare hC (fun m1 h1 a1 e1 => ?_)))) (hin := v1))))))
  have w1 : vp_in (nI i + 1) (m1.2.1 88).length := by rw [e1]; exact v1
  refine sL_law_921 (sL_law_922 (sL_law_923 (sL_law_924 (sL_law_925 (sL_law_926 (?_) (hin := w1))))))
  rw [e1]
  refine sL_law_927 (pm_scrG (R_spare (RR_frame hR a1) (fun m2 h2 a2 e2 => ?_)))
  exact sL_law_930 (fun _ => K _ m2 (RC_frame h1 a2) h2 (e2.trans e1)) (fun z => absurd rfl z)
theorem law_25 (hC : RC S m) (hR : RR S m) (hi : i + 6 ≤ (m.2.1 88).length) (hl : (m.2.1 88).length ≤ 384) (K : ∀ S' m', RC S' m' → RR S' m' → m'.2.1 88 = m.2.1 88 → pm_G (d + 17) mL_law 1372 [some (.ref 88), some (.ref 0), some (.ref 65), some (.int (nI i))] [] m' Q) : pm_G (d + 17) mL_law 935 [some (.ref 88), some (.ref 0), some (.ref 65), some (.int (nI i))] [] m Q := by
  have v1 : vp_in (nI i + 1) (m.2.1 88).length := vin_j 1 (by omega) hl
  refine sL_law_935 (sL_law_936 (sL_law_937 (sL_law_938 (sL_law_939 (sL_law_940 (sL_law_941 (pm_scrG (C_orders hC (fun m1 h1 a1 e1 => ?_)))) (hin := v1))))))
  have w1 : vp_in (nI i + 1) (m1.2.1 88).length := by rw [e1]; exact v1
  refine sL_law_944 (sL_law_945 (sL_law_946 (sL_law_947 (sL_law_948 (sL_law_949 (?_) (hin := w1))))))
  rw [e1]
  refine sL_law_950 (pm_scrG (R_orders (RR_frame hR a1) (fun m2 h2 a2 e2 => ?_)))
  exact sL_law_953 (fun _ => K _ m2 (RC_frame h1 a2) h2 (e2.trans e1)) (fun z => absurd rfl z)
theorem law_26 (hC : RC S m) (hR : RR S m) (hi : i + 6 ≤ (m.2.1 88).length) (hl : (m.2.1 88).length ≤ 384) (K : ∀ S' m', RC S' m' → RR S' m' → m'.2.1 88 = m.2.1 88 → pm_G (d + 17) mL_law 1372 [some (.ref 88), some (.ref 0), some (.ref 65), some (.int (nI i))] [] m' Q) : pm_G (d + 17) mL_law 958 [some (.ref 88), some (.ref 0), some (.ref 65), some (.int (nI i))] [] m Q := by
  have v1 : vp_in (nI i + 1) (m.2.1 88).length := vin_j 1 (by omega) hl
  refine sL_law_958 (sL_law_959 (sL_law_960 (sL_law_961 (sL_law_962 (sL_law_963 (sL_law_964 (pm_scrG (C_rides hC (fun m1 h1 a1 e1 => ?_)))) (hin := v1))))))
  have w1 : vp_in (nI i + 1) (m1.2.1 88).length := by rw [e1]; exact v1
  refine sL_law_967 (sL_law_968 (sL_law_969 (sL_law_970 (sL_law_971 (sL_law_972 (?_) (hin := w1))))))
  rw [e1]
  refine sL_law_973 (pm_scrG (R_rides (RR_frame hR a1) (fun m2 h2 a2 e2 => ?_)))
  exact sL_law_976 (fun _ => K _ m2 (RC_frame h1 a2) h2 (e2.trans e1)) (fun z => absurd rfl z)
theorem law_27 (hC : RC S m) (hR : RR S m) (hi : i + 6 ≤ (m.2.1 88).length) (hl : (m.2.1 88).length ≤ 384) (K : ∀ S' m', RC S' m' → RR S' m' → m'.2.1 88 = m.2.1 88 → pm_G (d + 17) mL_law 1372 [some (.ref 88), some (.ref 0), some (.ref 65), some (.int (nI i))] [] m' Q) : pm_G (d + 17) mL_law 981 [some (.ref 88), some (.ref 0), some (.ref 65), some (.int (nI i))] [] m Q := by
  refine sL_law_981 (sL_law_982 (pm_scrG (C_blessed hC (fun m1 h1 a1 e1 => ?_))))
  refine sL_law_985 (?_)
  refine sL_law_986 (pm_scrG (R_blessed (RR_frame hR a1) (fun m2 h2 a2 e2 => ?_)))
  exact sL_law_989 (fun _ => K _ m2 (RC_frame h1 a2) h2 (e2.trans e1)) (fun z => absurd rfl z)
theorem law_28 (hC : RC S m) (hR : RR S m) (hi : i + 6 ≤ (m.2.1 88).length) (hl : (m.2.1 88).length ≤ 384) (K : ∀ S' m', RC S' m' → RR S' m' → m'.2.1 88 = m.2.1 88 → pm_G (d + 17) mL_law 1372 [some (.ref 88), some (.ref 0), some (.ref 65), some (.int (nI i))] [] m' Q) : pm_G (d + 17) mL_law 994 [some (.ref 88), some (.ref 0), some (.ref 65), some (.int (nI i))] [] m Q := by
  have v1 : vp_in (nI i + 1) (m.2.1 88).length := vin_j 1 (by omega) hl
  have v2 : vp_in (nI i + 2) (m.2.1 88).length := vin_j 2 (by omega) hl
  have v3 : vp_in (nI i + 3) (m.2.1 88).length := vin_j 3 (by omega) hl
  have v4 : vp_in (nI i + 4) (m.2.1 88).length := vin_j 4 (by omega) hl
  refine sL_law_994 (sL_law_995 (sL_law_996 (sL_law_997 (sL_law_998 (sL_law_999 (sL_law_1000 (sL_law_1001 (sL_law_1002 (sL_law_1003 (sL_law_1004 (sL_law_1005 (sL_law_1006 (sL_law_1007 (sL_law_1008 (sL_law_1009 (sL_law_1010 (sL_law_1011 (sL_law_1012 (sL_law_1013 (sL_law_1014 (sL_law_1015 (pm_scrG (C_fees hC (fun m1 h1 a1 e1 => ?_)))) (hin := v4)))))) (hin := v3)))))) (hin := v2)))))) (hin := v1))))))
  have w1 : vp_in (nI i + 1) (m1.2.1 88).length := by rw [e1]; exact v1
  have w2 : vp_in (nI i + 2) (m1.2.1 88).length := by rw [e1]; exact v2
  have w3 : vp_in (nI i + 3) (m1.2.1 88).length := by rw [e1]; exact v3
  have w4 : vp_in (nI i + 4) (m1.2.1 88).length := by rw [e1]; exact v4
  refine sL_law_1018 (sL_law_1019 (sL_law_1020 (sL_law_1021 (sL_law_1022 (sL_law_1023 (sL_law_1024 (sL_law_1025 (sL_law_1026 (sL_law_1027 (sL_law_1028 (sL_law_1029 (sL_law_1030 (sL_law_1031 (sL_law_1032 (sL_law_1033 (sL_law_1034 (sL_law_1035 (sL_law_1036 (sL_law_1037 (sL_law_1038 (?_) (hin := w4)))))) (hin := w3)))))) (hin := w2)))))) (hin := w1))))))
  rw [e1]
  refine sL_law_1039 (pm_scrG (R_fees (RR_frame hR a1) (fun m2 h2 a2 e2 => ?_)))
  exact sL_law_1042 (fun _ => K _ m2 (RC_frame h1 a2) h2 (e2.trans e1)) (fun z => absurd rfl z)
theorem law_29 (hC : RC S m) (hR : RR S m) (hi : i + 6 ≤ (m.2.1 88).length) (hl : (m.2.1 88).length ≤ 384) (K : ∀ S' m', RC S' m' → RR S' m' → m'.2.1 88 = m.2.1 88 → pm_G (d + 17) mL_law 1372 [some (.ref 88), some (.ref 0), some (.ref 65), some (.int (nI i))] [] m' Q) : pm_G (d + 17) mL_law 1047 [some (.ref 88), some (.ref 0), some (.ref 65), some (.int (nI i))] [] m Q := by
  have v1 : vp_in (nI i + 1) (m.2.1 88).length := vin_j 1 (by omega) hl
  refine sL_law_1047 (sL_law_1048 (sL_law_1049 (sL_law_1050 (sL_law_1051 (sL_law_1052 (sL_law_1053 (pm_scrG (C_from hC (fun m1 h1 a1 e1 => ?_)))) (hin := v1))))))
  have w1 : vp_in (nI i + 1) (m1.2.1 88).length := by rw [e1]; exact v1
  refine sL_law_1056 (sL_law_1057 (sL_law_1058 (sL_law_1059 (sL_law_1060 (sL_law_1061 (?_) (hin := w1))))))
  rw [e1]
  refine sL_law_1062 (pm_scrG (R_from (RR_frame hR a1) (fun m2 h2 a2 e2 => ?_)))
  exact sL_law_1065 (fun _ => K _ m2 (RC_frame h1 a2) h2 (e2.trans e1)) (fun z => absurd rfl z)
theorem law_30 (hC : RC S m) (hR : RR S m) (hi : i + 6 ≤ (m.2.1 88).length) (hl : (m.2.1 88).length ≤ 384) (K : ∀ S' m', RC S' m' → RR S' m' → m'.2.1 88 = m.2.1 88 → pm_G (d + 17) mL_law 1372 [some (.ref 88), some (.ref 0), some (.ref 65), some (.int (nI i))] [] m' Q) : pm_G (d + 17) mL_law 1070 [some (.ref 88), some (.ref 0), some (.ref 65), some (.int (nI i))] [] m Q := by
  have v1 : vp_in (nI i + 1) (m.2.1 88).length := vin_j 1 (by omega) hl
  have v2 : vp_in (nI i + 2) (m.2.1 88).length := vin_j 2 (by omega) hl
  refine sL_law_1070 (sL_law_1071 (sL_law_1072 (sL_law_1073 (sL_law_1074 (sL_law_1075 (sL_law_1076 (sL_law_1077 (sL_law_1078 (sL_law_1079 (sL_law_1080 (sL_law_1081 (pm_scrG (C_kinds hC (fun m1 h1 a1 e1 => ?_)))) (hin := v2)))))) (hin := v1))))))
  have w1 : vp_in (nI i + 1) (m1.2.1 88).length := by rw [e1]; exact v1
  have w2 : vp_in (nI i + 2) (m1.2.1 88).length := by rw [e1]; exact v2
  refine sL_law_1084 (sL_law_1085 (sL_law_1086 (sL_law_1087 (sL_law_1088 (sL_law_1089 (sL_law_1090 (sL_law_1091 (sL_law_1092 (sL_law_1093 (sL_law_1094 (?_) (hin := w2)))))) (hin := w1))))))
  rw [e1]
  refine sL_law_1095 (pm_scrG (R_kinds (RR_frame hR a1) (fun m2 h2 a2 e2 => ?_)))
  exact sL_law_1098 (fun _ => K _ m2 (RC_frame h1 a2) h2 (e2.trans e1)) (fun z => absurd rfl z)
theorem law_31 (hC : RC S m) (hR : RR S m) (hi : i + 6 ≤ (m.2.1 88).length) (hl : (m.2.1 88).length ≤ 384) (K : ∀ S' m', RC S' m' → RR S' m' → m'.2.1 88 = m.2.1 88 → pm_G (d + 17) mL_law 1372 [some (.ref 88), some (.ref 0), some (.ref 65), some (.int (nI i))] [] m' Q) : pm_G (d + 17) mL_law 1103 [some (.ref 88), some (.ref 0), some (.ref 65), some (.int (nI i))] [] m Q := by
  have v1 : vp_in (nI i + 1) (m.2.1 88).length := vin_j 1 (by omega) hl
  have v2 : vp_in (nI i + 2) (m.2.1 88).length := vin_j 2 (by omega) hl
  have v3 : vp_in (nI i + 3) (m.2.1 88).length := vin_j 3 (by omega) hl
  refine sL_law_1103 (sL_law_1104 (sL_law_1105 (sL_law_1106 (sL_law_1107 (sL_law_1108 (sL_law_1109 (sL_law_1110 (sL_law_1111 (sL_law_1112 (sL_law_1113 (sL_law_1114 (sL_law_1115 (sL_law_1116 (sL_law_1117 (sL_law_1118 (sL_law_1119 (pm_scrG (C_given hC (fun m1 h1 a1 e1 => ?_)))) (hin := v3)))))) (hin := v2)))))) (hin := v1))))))
  have w1 : vp_in (nI i + 1) (m1.2.1 88).length := by rw [e1]; exact v1
  have w2 : vp_in (nI i + 2) (m1.2.1 88).length := by rw [e1]; exact v2
  have w3 : vp_in (nI i + 3) (m1.2.1 88).length := by rw [e1]; exact v3
  refine sL_law_1122 (sL_law_1123 (sL_law_1124 (sL_law_1125 (sL_law_1126 (sL_law_1127 (sL_law_1128 (sL_law_1129 (sL_law_1130 (sL_law_1131 (sL_law_1132 (sL_law_1133 (sL_law_1134 (sL_law_1135 (sL_law_1136 (sL_law_1137 (?_) (hin := w3)))))) (hin := w2)))))) (hin := w1))))))
  rw [e1]
  refine sL_law_1138 (pm_scrG (R_given (RR_frame hR a1) (fun m2 h2 a2 e2 => ?_)))
  exact sL_law_1141 (fun _ => K _ m2 (RC_frame h1 a2) h2 (e2.trans e1)) (fun z => absurd rfl z)
theorem law_32 (hC : RC S m) (hR : RR S m) (hi : i + 6 ≤ (m.2.1 88).length) (hl : (m.2.1 88).length ≤ 384) (K : ∀ S' m', RC S' m' → RR S' m' → m'.2.1 88 = m.2.1 88 → pm_G (d + 17) mL_law 1372 [some (.ref 88), some (.ref 0), some (.ref 65), some (.int (nI i))] [] m' Q) : pm_G (d + 17) mL_law 1146 [some (.ref 88), some (.ref 0), some (.ref 65), some (.int (nI i))] [] m Q := by
  have v1 : vp_in (nI i + 1) (m.2.1 88).length := vin_j 1 (by omega) hl
  refine sL_law_1146 (sL_law_1147 (sL_law_1148 (sL_law_1149 (sL_law_1150 (sL_law_1151 (sL_law_1152 (pm_scrG (C_king hC (fun m1 h1 a1 e1 => ?_)))) (hin := v1))))))
  have w1 : vp_in (nI i + 1) (m1.2.1 88).length := by rw [e1]; exact v1
  refine sL_law_1155 (sL_law_1156 (sL_law_1157 (sL_law_1158 (sL_law_1159 (sL_law_1160 (?_) (hin := w1))))))
  rw [e1]
  refine sL_law_1161 (pm_scrG (R_king (RR_frame hR a1) (fun m2 h2 a2 e2 => ?_)))
  exact sL_law_1164 (fun _ => K _ m2 (RC_frame h1 a2) h2 (e2.trans e1)) (fun z => absurd rfl z)
theorem law_33 (hC : RC S m) (hR : RR S m) (hi : i + 6 ≤ (m.2.1 88).length) (hl : (m.2.1 88).length ≤ 384) (K : ∀ S' m', RC S' m' → RR S' m' → m'.2.1 88 = m.2.1 88 → pm_G (d + 17) mL_law 1372 [some (.ref 88), some (.ref 0), some (.ref 65), some (.int (nI i))] [] m' Q) : pm_G (d + 17) mL_law 1169 [some (.ref 88), some (.ref 0), some (.ref 65), some (.int (nI i))] [] m Q := by
  have v1 : vp_in (nI i + 1) (m.2.1 88).length := vin_j 1 (by omega) hl
  have v2 : vp_in (nI i + 2) (m.2.1 88).length := vin_j 2 (by omega) hl
  refine sL_law_1169 (sL_law_1170 (sL_law_1171 (sL_law_1172 (sL_law_1173 (sL_law_1174 (sL_law_1175 (sL_law_1176 (sL_law_1177 (sL_law_1178 (sL_law_1179 (sL_law_1180 (pm_scrG (C_odds hC (fun m1 h1 a1 e1 => ?_)))) (hin := v2)))))) (hin := v1))))))
  have w1 : vp_in (nI i + 1) (m1.2.1 88).length := by rw [e1]; exact v1
  have w2 : vp_in (nI i + 2) (m1.2.1 88).length := by rw [e1]; exact v2
  refine sL_law_1183 (sL_law_1184 (sL_law_1185 (sL_law_1186 (sL_law_1187 (sL_law_1188 (sL_law_1189 (sL_law_1190 (sL_law_1191 (sL_law_1192 (sL_law_1193 (?_) (hin := w2)))))) (hin := w1))))))
  rw [e1]
  refine sL_law_1194 (pm_scrG (R_odds (RR_frame hR a1) (fun m2 h2 a2 e2 => ?_)))
  exact sL_law_1197 (fun _ => K _ m2 (RC_frame h1 a2) h2 (e2.trans e1)) (fun z => absurd rfl z)
theorem law_34 (hC : RC S m) (hR : RR S m) (hi : i + 6 ≤ (m.2.1 88).length) (hl : (m.2.1 88).length ≤ 384) (K : ∀ S' m', RC S' m' → RR S' m' → m'.2.1 88 = m.2.1 88 → pm_G (d + 17) mL_law 1372 [some (.ref 88), some (.ref 0), some (.ref 65), some (.int (nI i))] [] m' Q) : pm_G (d + 17) mL_law 1202 [some (.ref 88), some (.ref 0), some (.ref 65), some (.int (nI i))] [] m Q := by
  have v1 : vp_in (nI i + 1) (m.2.1 88).length := vin_j 1 (by omega) hl
  refine sL_law_1202 (sL_law_1203 (sL_law_1204 (sL_law_1205 (sL_law_1206 (sL_law_1207 (sL_law_1208 (pm_scrG (C_mid hC (fun m1 h1 a1 e1 => ?_)))) (hin := v1))))))
  have w1 : vp_in (nI i + 1) (m1.2.1 88).length := by rw [e1]; exact v1
  refine sL_law_1211 (sL_law_1212 (sL_law_1213 (sL_law_1214 (sL_law_1215 (sL_law_1216 (?_) (hin := w1))))))
  rw [e1]
  refine sL_law_1217 (pm_scrG (R_mid (RR_frame hR a1) (fun m2 h2 a2 e2 => ?_)))
  exact sL_law_1220 (fun _ => K _ m2 (RC_frame h1 a2) h2 (e2.trans e1)) (fun z => absurd rfl z)
theorem law_35 (hC : RC S m) (hR : RR S m) (hi : i + 6 ≤ (m.2.1 88).length) (hl : (m.2.1 88).length ≤ 384) (K : ∀ S' m', RC S' m' → RR S' m' → m'.2.1 88 = m.2.1 88 → pm_G (d + 17) mL_law 1372 [some (.ref 88), some (.ref 0), some (.ref 65), some (.int (nI i))] [] m' Q) : pm_G (d + 17) mL_law 1225 [some (.ref 88), some (.ref 0), some (.ref 65), some (.int (nI i))] [] m Q := by
  have v1 : vp_in (nI i + 1) (m.2.1 88).length := vin_j 1 (by omega) hl
  have v2 : vp_in (nI i + 2) (m.2.1 88).length := vin_j 2 (by omega) hl
  refine sL_law_1225 (sL_law_1226 (sL_law_1227 (sL_law_1228 (sL_law_1229 (sL_law_1230 (sL_law_1231 (sL_law_1232 (sL_law_1233 (sL_law_1234 (sL_law_1235 (sL_law_1236 (pm_scrG (C_lots hC (fun m1 h1 a1 e1 => ?_)))) (hin := v2)))))) (hin := v1))))))
  have w1 : vp_in (nI i + 1) (m1.2.1 88).length := by rw [e1]; exact v1
  have w2 : vp_in (nI i + 2) (m1.2.1 88).length := by rw [e1]; exact v2
  refine sL_law_1239 (sL_law_1240 (sL_law_1241 (sL_law_1242 (sL_law_1243 (sL_law_1244 (sL_law_1245 (sL_law_1246 (sL_law_1247 (sL_law_1248 (sL_law_1249 (?_) (hin := w2)))))) (hin := w1))))))
  rw [e1]
  refine sL_law_1250 (pm_scrG (R_lots (RR_frame hR a1) (fun m2 h2 a2 e2 => ?_)))
  exact sL_law_1253 (fun _ => K _ m2 (RC_frame h1 a2) h2 (e2.trans e1)) (fun z => absurd rfl z)
theorem law_36 (hC : RC S m) (hR : RR S m) (hi : i + 6 ≤ (m.2.1 88).length) (hl : (m.2.1 88).length ≤ 384) (K : ∀ S' m', RC S' m' → RR S' m' → m'.2.1 88 = m.2.1 88 → pm_G (d + 17) mL_law 1372 [some (.ref 88), some (.ref 0), some (.ref 65), some (.int (nI i))] [] m' Q) : pm_G (d + 17) mL_law 1258 [some (.ref 88), some (.ref 0), some (.ref 65), some (.int (nI i))] [] m Q := by
  refine sL_law_1258 (sL_law_1259 (pm_scrG (C_asked hC (fun _ => ?_))))
  refine sL_law_1262 (sL_law_1263 (pm_scrG (R_asked hR (fun _ => ?_))))
  exact sL_law_1266 (fun _ => K S m hC hR rfl) (fun z => absurd rfl z)
theorem law_37 (hC : RC S m) (hR : RR S m) (hi : i + 6 ≤ (m.2.1 88).length) (hl : (m.2.1 88).length ≤ 384) (K : ∀ S' m', RC S' m' → RR S' m' → m'.2.1 88 = m.2.1 88 → pm_G (d + 17) mL_law 1372 [some (.ref 88), some (.ref 0), some (.ref 65), some (.int (nI i))] [] m' Q) : pm_G (d + 17) mL_law 1271 [some (.ref 88), some (.ref 0), some (.ref 65), some (.int (nI i))] [] m Q := by
  refine sL_law_1271 (sL_law_1272 (pm_scrG (C_upper hC (fun _ => ?_))))
  refine sL_law_1275 (sL_law_1276 (pm_scrG (R_upper hR (fun _ => ?_))))
  exact sL_law_1279 (fun _ => K S m hC hR rfl) (fun z => absurd rfl z)
theorem law_38 (hC : RC S m) (hR : RR S m) (hi : i + 6 ≤ (m.2.1 88).length) (hl : (m.2.1 88).length ≤ 384) (K : ∀ S' m', RC S' m' → RR S' m' → m'.2.1 88 = m.2.1 88 → pm_G (d + 17) mL_law 1372 [some (.ref 88), some (.ref 0), some (.ref 65), some (.int (nI i))] [] m' Q) : pm_G (d + 17) mL_law 1285 [some (.ref 88), some (.ref 0), some (.ref 65), some (.int (nI i))] [] m Q := by
  refine sL_law_1285 (sL_law_1286 (pm_scrG (C_lower hC (fun _ => ?_))))
  refine sL_law_1289 (sL_law_1290 (pm_scrG (R_lower hR (fun _ => ?_))))
  exact sL_law_1293 (fun _ => K S m hC hR rfl) (fun z => absurd rfl z)
theorem law_39 (hC : RC S m) (hR : RR S m) (hi : i + 6 ≤ (m.2.1 88).length) (hl : (m.2.1 88).length ≤ 384) (K : ∀ S' m', RC S' m' → RR S' m' → m'.2.1 88 = m.2.1 88 → pm_G (d + 17) mL_law 1372 [some (.ref 88), some (.ref 0), some (.ref 65), some (.int (nI i))] [] m' Q) : pm_G (d + 17) mL_law 1299 [some (.ref 88), some (.ref 0), some (.ref 65), some (.int (nI i))] [] m Q := by
  have v1 : vp_in (nI i + 1) (m.2.1 88).length := vin_j 1 (by omega) hl
  refine sL_law_1299 (sL_law_1300 (sL_law_1301 (sL_law_1302 (sL_law_1303 (sL_law_1304 (sL_law_1305 (pm_scrG (C_count hC (fun _ => ?_)))) (hin := v1))))))
  refine sL_law_1308 (sL_law_1309 (sL_law_1310 (sL_law_1311 (sL_law_1312 (sL_law_1313 (sL_law_1314 (pm_scrG (R_count hR (fun _ => ?_)))) (hin := v1))))))
  exact sL_law_1317 (fun _ => K S m hC hR rfl) (fun z => absurd rfl z)
theorem law_40 (hC : RC S m) (hR : RR S m) (hi : i + 6 ≤ (m.2.1 88).length) (hl : (m.2.1 88).length ≤ 384) (K : ∀ S' m', RC S' m' → RR S' m' → m'.2.1 88 = m.2.1 88 → pm_G (d + 17) mL_law 1372 [some (.ref 88), some (.ref 0), some (.ref 65), some (.int (nI i))] [] m' Q) : pm_G (d + 17) mL_law 1322 [some (.ref 88), some (.ref 0), some (.ref 65), some (.int (nI i))] [] m Q := by
  refine sL_law_1322 (sL_law_1323 (pm_scrG (C_finding hC (fun _ => ?_))))
  refine sL_law_1326 (sL_law_1327 (pm_scrG (R_finding hR (fun _ => ?_))))
  exact sL_law_1330 (fun _ => K S m hC hR rfl) (fun z => absurd rfl z)
theorem law_41 (hC : RC S m) (hR : RR S m) (hi : i + 6 ≤ (m.2.1 88).length) (hl : (m.2.1 88).length ≤ 384) (K : ∀ S' m', RC S' m' → RR S' m' → m'.2.1 88 = m.2.1 88 → pm_G (d + 17) mL_law 1372 [some (.ref 88), some (.ref 0), some (.ref 65), some (.int (nI i))] [] m' Q) : pm_G (d + 17) mL_law 1335 [some (.ref 88), some (.ref 0), some (.ref 65), some (.int (nI i))] [] m Q := by
  have v1 : vp_in (nI i + 1) (m.2.1 88).length := vin_j 1 (by omega) hl
  refine sL_law_1335 (sL_law_1336 (sL_law_1337 (sL_law_1338 (sL_law_1339 (sL_law_1340 (sL_law_1341 (pm_scrG (C_findings hC (fun _ => ?_)))) (hin := v1))))))
  refine sL_law_1344 (sL_law_1345 (sL_law_1346 (sL_law_1347 (sL_law_1348 (sL_law_1349 (sL_law_1350 (pm_scrG (R_findings hR (fun _ => ?_)))) (hin := v1))))))
  exact sL_law_1353 (fun _ => K S m hC hR rfl) (fun z => absurd rfl z)
theorem law_42 (hC : RC S m) (hR : RR S m) (hi : i + 6 ≤ (m.2.1 88).length) (hl : (m.2.1 88).length ≤ 384) (K : ∀ S' m', RC S' m' → RR S' m' → m'.2.1 88 = m.2.1 88 → pm_G (d + 17) mL_law 1372 [some (.ref 88), some (.ref 0), some (.ref 65), some (.int (nI i))] [] m' Q) : pm_G (d + 17) mL_law 1358 [some (.ref 88), some (.ref 0), some (.ref 65), some (.int (nI i))] [] m Q := by
  refine sL_law_1358 (sL_law_1359 (pm_scrG (C_digest hC (fun _ => ?_))))
  refine sL_law_1362 (sL_law_1363 (pm_scrG (R_digest hR (fun m2 h2 a2 e2 => ?_))))
  exact sL_law_1366 (fun _ => K S m2 (RC_frame hC a2) h2 e2) (fun z => absurd rfl z)
theorem law_loop (K1 : ∀ m', Q (some (.int 1)) m') : ∀ (n i : Nat) (S : Sg) (m : pmMem), (m.2.1 88).length < i + 6 * n + 6 → i ≤ 400 → (m.2.1 88).length ≤ 384 → RC S m → RR S m → pm_G (d + 17) mL_law 18 [some (.ref 88), some (.ref 0), some (.ref 65), some (.int (nI i))] [] m Q := by
  intro n
  induction n with
  | zero =>
    intro i S m hn hi hl hC hR
    refine sL_law_18 (sL_law_19 (sL_law_20 (sL_law_21 (sL_law_23 (sL_law_24 (fun _ => sL_law_1378 (sL_law_1379 (K1 m))) (fun z => ?_))))))
    exfalso
    apply z
    show nI (m.2.1 88).length - nI 6 < nI i
    rw [Int32.lt_iff_toInt_lt, pk_sub_toInt (by omega) (by omega), nI_toInt (by omega)]
    omega
  | succ n ih =>
    intro i S m hn hi hl hC hR
    refine sL_law_18 (sL_law_19 (sL_law_20 (sL_law_21 (sL_law_23 (sL_law_24 (fun _ => sL_law_1378 (sL_law_1379 (K1 m))) (fun z => ?_))))))
    have z : ¬ nI (m.2.1 88).length - nI 6 < nI i := z
    rw [Int32.lt_iff_toInt_lt, pk_sub_toInt (by omega) (by omega), nI_toInt (by omega)] at z
    have h6 : i + 6 ≤ (m.2.1 88).length := by omega
    have v0 : vp_in (nI i) (m.2.1 88).length := ni_in (by omega) (by omega)
    refine sL_law_27 (sL_law_28 (sL_law_29 (sL_law_30 (sL_law_32 ?_)) (hin := v0)))
    have K : ∀ S' m', RC S' m' → RR S' m' → m'.2.1 88 = m.2.1 88 → pm_G (d + 17) mL_law 1372 [some (.ref 88), some (.ref 0), some (.ref 65), some (.int (nI i))] [] m' Q := by
      intro S' m' hC' hR' e88
      refine sL_law_1372 (sL_law_1375 ?_)
      rw [show nI i + 6 = nI (i + 6) from nI_add i 6]
      exact ih (i + 6) S' m' (by rw [e88]; omega) (by omega) (by rw [e88]; exact hl) hC' hR'
    obtain ⟨j, hj, ej⟩ := pk_andE ((m.2.1 88).getD (nI i).toNatClampNeg 0) (m := 63) 6 (by decide)
    rw [ej]
    rcases (show j = 0 ∨ j = 1 ∨ j = 2 ∨ j = 3 ∨ j = 4 ∨ j = 5 ∨ j = 6 ∨ j = 7 ∨ j = 8 ∨ j = 9 ∨ j = 10 ∨ j = 11 ∨ j = 12 ∨ j = 13 ∨ j = 14 ∨ j = 15 ∨ j = 16 ∨ j = 17 ∨ j = 18 ∨ j = 19 ∨ j = 20 ∨ j = 21 ∨ j = 22 ∨ j = 23 ∨ j = 24 ∨ j = 25 ∨ j = 26 ∨ j = 27 ∨ j = 28 ∨ j = 29 ∨ j = 30 ∨ j = 31 ∨ j = 32 ∨ j = 33 ∨ j = 34 ∨ j = 35 ∨ j = 36 ∨ j = 37 ∨ j = 38 ∨ j = 39 ∨ j = 40 ∨ j = 41 ∨ j = 42 ∨ 43 ≤ j by omega) with rfl | rfl | rfl | rfl | rfl | rfl | rfl | rfl | rfl | rfl | rfl | rfl | rfl | rfl | rfl | rfl | rfl | rfl | rfl | rfl | rfl | rfl | rfl | rfl | rfl | rfl | rfl | rfl | rfl | rfl | rfl | rfl | rfl | rfl | rfl | rfl | rfl | rfl | rfl | rfl | rfl | rfl | rfl | h43
    · exact sL_law_33_0 (law_0 hC hR h6 hl K)
    · exact sL_law_33_1 (law_1 hC hR h6 hl K)
    · exact sL_law_33_2 (law_2 hC hR h6 hl K)
    · exact sL_law_33_3 (law_3 hC hR h6 hl K)
    · exact sL_law_33_4 (law_4 hC hR h6 hl K)
    · exact sL_law_33_5 (law_5 hC hR h6 hl K)
    · exact sL_law_33_6 (law_6 hC hR h6 hl K)
    · exact sL_law_33_7 (law_7 hC hR h6 hl K)
    · exact sL_law_33_8 (law_8 hC hR h6 hl K)
    · exact sL_law_33_9 (law_9 hC hR h6 hl K)
    · exact sL_law_33_10 (law_10 hC hR h6 hl K)
    · exact sL_law_33_11 (law_11 hC hR h6 hl K)
    · exact sL_law_33_12 (law_12 hC hR h6 hl K)
    · exact sL_law_33_13 (law_13 hC hR h6 hl K)
    · exact sL_law_33_14 (law_14 hC hR h6 hl K)
    · exact sL_law_33_15 (law_15 hC hR h6 hl K)
    · exact sL_law_33_16 (law_16 hC hR h6 hl K)
    · exact sL_law_33_17 (law_17 hC hR h6 hl K)
    · exact sL_law_33_18 (law_18 hC hR h6 hl K)
    · exact sL_law_33_19 (law_19 hC hR h6 hl K)
    · exact sL_law_33_20 (law_20 hC hR h6 hl K)
    · exact sL_law_33_21 (law_21 hC hR h6 hl K)
    · exact sL_law_33_22 (law_22 hC hR h6 hl K)
    · exact sL_law_33_23 (law_23 hC hR h6 hl K)
    · exact sL_law_33_24 (law_24 hC hR h6 hl K)
    · exact sL_law_33_25 (law_25 hC hR h6 hl K)
    · exact sL_law_33_26 (law_26 hC hR h6 hl K)
    · exact sL_law_33_27 (law_27 hC hR h6 hl K)
    · exact sL_law_33_28 (law_28 hC hR h6 hl K)
    · exact sL_law_33_29 (law_29 hC hR h6 hl K)
    · exact sL_law_33_30 (law_30 hC hR h6 hl K)
    · exact sL_law_33_31 (law_31 hC hR h6 hl K)
    · exact sL_law_33_32 (law_32 hC hR h6 hl K)
    · exact sL_law_33_33 (law_33 hC hR h6 hl K)
    · exact sL_law_33_34 (law_34 hC hR h6 hl K)
    · exact sL_law_33_35 (law_35 hC hR h6 hl K)
    · exact sL_law_33_36 (law_36 hC hR h6 hl K)
    · exact sL_law_33_37 (law_37 hC hR h6 hl K)
    · exact sL_law_33_38 (law_38 hC hR h6 hl K)
    · exact sL_law_33_39 (law_39 hC hR h6 hl K)
    · exact sL_law_33_40 (law_40 hC hR h6 hl K)
    · exact sL_law_33_41 (law_41 hC hR h6 hl K)
    · exact sL_law_33_42 (law_42 hC hR h6 hl K)
    · exact sL_law_33_d (Or.inr (by rw [nI_toInt (by omega)]; omega)) (K S m hC hR rfl)
end LAW
