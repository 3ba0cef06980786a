/-! the law: its cases -/
section LCA
variable {L : Nat} {f : Nat → Int} {i : Nat} {σ : oSg}
theorem law_person (H : Inv σ) (hL : L ≤ 3072) (hi : i + 6 ≤ L) (hf : ∀ j, oI32 (f j)) (g : ∀ τ, Inv τ → lE L f 1260 (lLs i) [] τ) : lE L f 196 (lLs i) [] σ := by
  obtain ⟨v, τ, υ, h1, h2, hI⟩ := c_person H (show 20 ≤ 60 by decide) 
  obtain ⟨x, rfl⟩ := oMi_int h1 (by decide +kernel)
  refine lE_a1 f_226_196 ?_
  refine lE_cv f_226_197 lk_12_13 mt_12 rfl rfl (by decide +kernel) rfl rfl h1 ?_
  refine lE_a2 f_226_200 ?_
  refine lE_cv f_226_201 lk_12_17 mt_142 rfl rfl (by decide +kernel) rfl rfl h2 ?_
  exact lE_eq f_226_204 (t := 1260) (by decide +kernel) (g _ hI)
theorem law_weigh (H : Inv σ) (hL : L ≤ 3072) (hi : i + 6 ≤ L) (hf : ∀ j, oI32 (f j)) (g : ∀ τ, Inv τ → lE L f 1260 (lLs i) [] τ) : lE L f 209 (lLs i) [] σ := by
  obtain ⟨v, τ, υ, h1, h2, hI⟩ := c_weigh H (show 20 ≤ 60 by decide) (f (i + 1)) (f (i + 2)) (f (i + 3))
  obtain ⟨x, rfl⟩ := oMi_int h1 (by decide +kernel)
  refine lE_a1 f_226_209 ?_
  refine lE_arg (k := 1) f_226_210 f_226_211 f_226_212 f_226_213 f_226_214 (by omega) hL ?_
  refine lE_arg (k := 2) f_226_215 f_226_216 f_226_217 f_226_218 f_226_219 (by omega) hL ?_
  refine lE_arg (k := 3) f_226_220 f_226_221 f_226_222 f_226_223 f_226_224 (by omega) hL ?_
  refine lE_cv f_226_225 lk_12_18 mt_13 rfl rfl (by decide +kernel) rfl rfl h1 ?_
  refine lE_a2 f_226_228 ?_
  refine lE_arg (k := 1) f_226_229 f_226_230 f_226_231 f_226_232 f_226_233 (by omega) hL ?_
  refine lE_arg (k := 2) f_226_234 f_226_235 f_226_236 f_226_237 f_226_238 (by omega) hL ?_
  refine lE_arg (k := 3) f_226_239 f_226_240 f_226_241 f_226_242 f_226_243 (by omega) hL ?_
  refine lE_cv f_226_244 lk_12_22 mt_143 rfl rfl (by decide +kernel) rfl rfl h2 ?_
  exact lE_eq f_226_247 (t := 1260) (by decide +kernel) (g _ hI)
theorem law_of (H : Inv σ) (hL : L ≤ 3072) (hi : i + 6 ≤ L) (hf : ∀ j, oI32 (f j)) (g : ∀ τ, Inv τ → lE L f 1260 (lLs i) [] τ) : lE L f 252 (lLs i) [] σ := by
  obtain ⟨v, τ, υ, h1, h2, hI⟩ := c_of H (show 20 ≤ 60 by decide) (f (i + 1)) (f (i + 2))
  obtain ⟨x, rfl⟩ := oMi_int h1 (by decide +kernel)
  refine lE_a1 f_226_252 ?_
  refine lE_arg (k := 1) f_226_253 f_226_254 f_226_255 f_226_256 f_226_257 (by omega) hL ?_
  refine lE_arg (k := 2) f_226_258 f_226_259 f_226_260 f_226_261 f_226_262 (by omega) hL ?_
  refine lE_cv f_226_263 lk_12_23 mt_20 rfl rfl (by decide +kernel) rfl rfl h1 ?_
  refine lE_a2 f_226_266 ?_
  refine lE_arg (k := 1) f_226_267 f_226_268 f_226_269 f_226_270 f_226_271 (by omega) hL ?_
  refine lE_arg (k := 2) f_226_272 f_226_273 f_226_274 f_226_275 f_226_276 (by omega) hL ?_
  refine lE_cv f_226_277 lk_12_27 mt_151 rfl rfl (by decide +kernel) rfl rfl h2 ?_
  exact lE_eq f_226_280 (t := 1260) (by decide +kernel) (g _ hI)
theorem law_pair (H : Inv σ) (hL : L ≤ 3072) (hi : i + 6 ≤ L) (hf : ∀ j, oI32 (f j)) (g : ∀ τ, Inv τ → lE L f 1260 (lLs i) [] τ) : lE L f 285 (lLs i) [] σ := by
  obtain ⟨v, τ, υ, h1, h2, hI⟩ := c_pair H (show 20 ≤ 60 by decide) (f (i + 1)) (f (i + 2))
  obtain ⟨x, rfl⟩ := oMi_int h1 (by decide +kernel)
  refine lE_a1 f_226_285 ?_
  refine lE_arg (k := 1) f_226_286 f_226_287 f_226_288 f_226_289 f_226_290 (by omega) hL ?_
  refine lE_arg (k := 2) f_226_291 f_226_292 f_226_293 f_226_294 f_226_295 (by omega) hL ?_
  refine lE_cv f_226_296 lk_12_28 mt_21 rfl rfl (by decide +kernel) rfl rfl h1 ?_
  refine lE_a2 f_226_299 ?_
  refine lE_arg (k := 1) f_226_300 f_226_301 f_226_302 f_226_303 f_226_304 (by omega) hL ?_
  refine lE_arg (k := 2) f_226_305 f_226_306 f_226_307 f_226_308 f_226_309 (by omega) hL ?_
  refine lE_cv f_226_310 lk_12_31 mt_152 rfl rfl (by decide +kernel) rfl rfl h2 ?_
  exact lE_eq f_226_313 (t := 1260) (by decide +kernel) (g _ hI)
theorem law_alone (H : Inv σ) (hL : L ≤ 3072) (hi : i + 6 ≤ L) (hf : ∀ j, oI32 (f j)) (g : ∀ τ, Inv τ → lE L f 1260 (lLs i) [] τ) : lE L f 318 (lLs i) [] σ := by
  obtain ⟨v, τ, υ, h1, h2, hI⟩ := c_alone H (show 20 ≤ 60 by decide) (f (i + 1))
  obtain ⟨x, rfl⟩ := oMi_int h1 (by decide +kernel)
  refine lE_a1 f_226_318 ?_
  refine lE_arg (k := 1) f_226_319 f_226_320 f_226_321 f_226_322 f_226_323 (by omega) hL ?_
  refine lE_cv f_226_324 lk_12_32 mt_29 rfl rfl (by decide +kernel) rfl rfl h1 ?_
  refine lE_a2 f_226_327 ?_
  refine lE_arg (k := 1) f_226_328 f_226_329 f_226_330 f_226_331 f_226_332 (by omega) hL ?_
  refine lE_cv f_226_333 lk_12_36 mt_156 rfl rfl (by decide +kernel) rfl rfl h2 ?_
  exact lE_eq f_226_336 (t := 1260) (by decide +kernel) (g _ hI)
theorem law_take (H : Inv σ) (hL : L ≤ 3072) (hi : i + 6 ≤ L) (hf : ∀ j, oI32 (f j)) (g : ∀ τ, Inv τ → lE L f 1260 (lLs i) [] τ) : lE L f 341 (lLs i) [] σ := by
  obtain ⟨v, τ, υ, h1, h2, hI⟩ := c_take H (show 20 ≤ 60 by decide) (f (i + 1))
  obtain ⟨x, rfl⟩ := oMi_int h1 (by decide +kernel)
  refine lE_a1 f_226_341 ?_
  refine lE_arg (k := 1) f_226_342 f_226_343 f_226_344 f_226_345 f_226_346 (by omega) hL ?_
  refine lE_cv f_226_347 lk_12_37 mt_31 rfl rfl (by decide +kernel) rfl rfl h1 ?_
  refine lE_a2 f_226_350 ?_
  refine lE_arg (k := 1) f_226_351 f_226_352 f_226_353 f_226_354 f_226_355 (by omega) hL ?_
  refine lE_cv f_226_356 lk_12_40 mt_158 rfl rfl (by decide +kernel) rfl rfl h2 ?_
  exact lE_eq f_226_359 (t := 1260) (by decide +kernel) (g _ hI)
theorem law_mend (H : Inv σ) (hL : L ≤ 3072) (hi : i + 6 ≤ L) (hf : ∀ j, oI32 (f j)) (g : ∀ τ, Inv τ → lE L f 1260 (lLs i) [] τ) : lE L f 364 (lLs i) [] σ := by
  obtain ⟨v, τ, υ, h1, h2, hI⟩ := c_mend H (show 20 ≤ 60 by decide) (f (i + 1))
  obtain ⟨x, rfl⟩ := oMi_int h1 (by decide +kernel)
  refine lE_a1 f_226_364 ?_
  refine lE_arg (k := 1) f_226_365 f_226_366 f_226_367 f_226_368 f_226_369 (by omega) hL ?_
  refine lE_cv f_226_370 lk_12_41 mt_42 rfl rfl (by decide +kernel) rfl rfl h1 ?_
  refine lE_a2 f_226_373 ?_
  refine lE_arg (k := 1) f_226_374 f_226_375 f_226_376 f_226_377 f_226_378 (by omega) hL ?_
  refine lE_cv f_226_379 lk_12_44 mt_161 rfl rfl (by decide +kernel) rfl rfl h2 ?_
  exact lE_eq f_226_382 (t := 1260) (by decide +kernel) (g _ hI)
theorem law_partner (H : Inv σ) (hL : L ≤ 3072) (hi : i + 6 ≤ L) (hf : ∀ j, oI32 (f j)) (g : ∀ τ, Inv τ → lE L f 1260 (lLs i) [] τ) : lE L f 387 (lLs i) [] σ := by
  obtain ⟨v, τ, υ, h1, h2, hI⟩ := c_partner H (show 20 ≤ 60 by decide) (f (i + 1))
  obtain ⟨x, rfl⟩ := oMi_int h1 (by decide +kernel)
  refine lE_a1 f_226_387 ?_
  refine lE_arg (k := 1) f_226_388 f_226_389 f_226_390 f_226_391 f_226_392 (by omega) hL ?_
  refine lE_cv f_226_393 lk_12_45 mt_50 rfl rfl (by decide +kernel) rfl rfl h1 ?_
  refine lE_a2 f_226_396 ?_
  refine lE_arg (k := 1) f_226_397 f_226_398 f_226_399 f_226_400 f_226_401 (by omega) hL ?_
  refine lE_cv f_226_402 lk_12_48 mt_165 rfl rfl (by decide +kernel) rfl rfl h2 ?_
  exact lE_eq f_226_405 (t := 1260) (by decide +kernel) (g _ hI)
theorem law_feed (H : Inv σ) (hL : L ≤ 3072) (hi : i + 6 ≤ L) (hf : ∀ j, oI32 (f j)) (g : ∀ τ, Inv τ → lE L f 1260 (lLs i) [] τ) : lE L f 410 (lLs i) [] σ := by
  obtain ⟨v, τ, υ, h1, h2, hI⟩ := c_feed H (show 20 ≤ 60 by decide) (f (i + 1))
  obtain ⟨x, rfl⟩ := oMi_int h1 (by decide +kernel)
  refine lE_a1 f_226_410 ?_
  refine lE_arg (k := 1) f_226_411 f_226_412 f_226_413 f_226_414 f_226_415 (by omega) hL ?_
  refine lE_cv f_226_416 lk_12_49 mt_51 rfl rfl (by decide +kernel) rfl rfl h1 ?_
  refine lE_a2 f_226_419 ?_
  refine lE_arg (k := 1) f_226_420 f_226_421 f_226_422 f_226_423 f_226_424 (by omega) hL ?_
  refine lE_cv f_226_425 lk_12_52 mt_166 rfl rfl (by decide +kernel) rfl rfl h2 ?_
  exact lE_eq f_226_428 (t := 1260) (by decide +kernel) (g _ hI)
theorem law_read (H : Inv σ) (hL : L ≤ 3072) (hi : i + 6 ≤ L) (hf : ∀ j, oI32 (f j)) (g : ∀ τ, Inv τ → lE L f 1260 (lLs i) [] τ) : lE L f 433 (lLs i) [] σ := by
  obtain ⟨v, τ, υ, h1, h2, hI⟩ := c_read H (show 20 ≤ 60 by decide) 
  obtain ⟨x, rfl⟩ := oMi_int h1 (by decide +kernel)
  refine lE_a1 f_226_433 ?_
  refine lE_cv f_226_434 lk_12_53 mt_53 rfl rfl (by decide +kernel) rfl rfl h1 ?_
  refine lE_a2 f_226_437 ?_
  refine lE_cv f_226_438 lk_12_56 mt_167 rfl rfl (by decide +kernel) rfl rfl h2 ?_
  exact lE_eq f_226_441 (t := 1260) (by decide +kernel) (g _ hI)
theorem law_way (H : Inv σ) (hL : L ≤ 3072) (hi : i + 6 ≤ L) (hf : ∀ j, oI32 (f j)) (g : ∀ τ, Inv τ → lE L f 1260 (lLs i) [] τ) : lE L f 446 (lLs i) [] σ := by
  obtain ⟨v, τ, υ, h1, h2, hI⟩ := c_way H (show 20 ≤ 60 by decide) (f (i + 1))
  obtain ⟨x, rfl⟩ := oMi_int h1 (by decide +kernel)
  refine lE_a1 f_226_446 ?_
  refine lE_arg (k := 1) f_226_447 f_226_448 f_226_449 f_226_450 f_226_451 (by omega) hL ?_
  refine lE_cv f_226_452 lk_12_57 mt_65 rfl rfl (by decide +kernel) rfl rfl h1 ?_
  refine lE_a2 f_226_455 ?_
  refine lE_arg (k := 1) f_226_456 f_226_457 f_226_458 f_226_459 f_226_460 (by omega) hL ?_
  refine lE_cv f_226_461 lk_12_60 mt_175 rfl rfl (by decide +kernel) rfl rfl h2 ?_
  exact lE_eq f_226_464 (t := 1260) (by decide +kernel) (g _ hI)
theorem law_flower (H : Inv σ) (hL : L ≤ 3072) (hi : i + 6 ≤ L) (hf : ∀ j, oI32 (f j)) (g : ∀ τ, Inv τ → lE L f 1260 (lLs i) [] τ) : lE L f 469 (lLs i) [] σ := by
  obtain ⟨v, τ, υ, h1, h2, hI⟩ := c_flower H (show 20 ≤ 60 by decide) (f (i + 1)) (f (i + 2))
  obtain ⟨x, rfl⟩ := oMi_int h1 (by decide +kernel)
  refine lE_a1 f_226_469 ?_
  refine lE_arg (k := 1) f_226_470 f_226_471 f_226_472 f_226_473 f_226_474 (by omega) hL ?_
  refine lE_arg (k := 2) f_226_475 f_226_476 f_226_477 f_226_478 f_226_479 (by omega) hL ?_
  refine lE_cv f_226_480 lk_12_61 mt_66 rfl rfl (by decide +kernel) rfl rfl h1 ?_
  refine lE_a2 f_226_483 ?_
  refine lE_arg (k := 1) f_226_484 f_226_485 f_226_486 f_226_487 f_226_488 (by omega) hL ?_
  refine lE_arg (k := 2) f_226_489 f_226_490 f_226_491 f_226_492 f_226_493 (by omega) hL ?_
  refine lE_cv f_226_494 lk_12_64 mt_176 rfl rfl (by decide +kernel) rfl rfl h2 ?_
  exact lE_eq f_226_497 (t := 1260) (by decide +kernel) (g _ hI)
theorem law_shrunk (H : Inv σ) (hL : L ≤ 3072) (hi : i + 6 ≤ L) (hf : ∀ j, oI32 (f j)) (g : ∀ τ, Inv τ → lE L f 1260 (lLs i) [] τ) : lE L f 502 (lLs i) [] σ := by
  obtain ⟨v, τ, υ, h1, h2, hI⟩ := c_shrunk H (show 20 ≤ 60 by decide) 
  obtain ⟨x, rfl⟩ := oMi_int h1 (by decide +kernel)
  refine lE_a1 f_226_502 ?_
  refine lE_cv f_226_503 lk_12_65 mt_70 rfl rfl (by decide +kernel) rfl rfl h1 ?_
  refine lE_a2 f_226_506 ?_
  refine lE_cv f_226_507 lk_12_68 mt_180 rfl rfl (by decide +kernel) rfl rfl h2 ?_
  exact lE_eq f_226_510 (t := 1260) (by decide +kernel) (g _ hI)
theorem law_best (H : Inv σ) (hL : L ≤ 3072) (hi : i + 6 ≤ L) (hf : ∀ j, oI32 (f j)) (g : ∀ τ, Inv τ → lE L f 1260 (lLs i) [] τ) : lE L f 515 (lLs i) [] σ := by
  obtain ⟨v, τ, υ, h1, h2, hI⟩ := c_best H (show 20 ≤ 60 by decide) (f (i + 1)) (f (i + 2))
  obtain ⟨x, rfl⟩ := oMi_int h1 (by decide +kernel)
  refine lE_a1 f_226_515 ?_
  refine lE_arg (k := 1) f_226_516 f_226_517 f_226_518 f_226_519 f_226_520 (by omega) hL ?_
  refine lE_arg (k := 2) f_226_521 f_226_522 f_226_523 f_226_524 f_226_525 (by omega) hL ?_
  refine lE_cv f_226_526 lk_12_69 mt_73 rfl rfl (by decide +kernel) rfl rfl h1 ?_
  refine lE_a2 f_226_529 ?_
  refine lE_arg (k := 1) f_226_530 f_226_531 f_226_532 f_226_533 f_226_534 (by omega) hL ?_
  refine lE_arg (k := 2) f_226_535 f_226_536 f_226_537 f_226_538 f_226_539 (by omega) hL ?_
  refine lE_cv f_226_540 lk_12_72 mt_179 rfl rfl (by decide +kernel) rfl rfl h2 ?_
  exact lE_eq f_226_543 (t := 1260) (by decide +kernel) (g _ hI)
theorem law_told (H : Inv σ) (hL : L ≤ 3072) (hi : i + 6 ≤ L) (hf : ∀ j, oI32 (f j)) (g : ∀ τ, Inv τ → lE L f 1260 (lLs i) [] τ) : lE L f 548 (lLs i) [] σ := by
  obtain ⟨v, τ, υ, h1, h2, hI⟩ := c_told H (show 20 ≤ 60 by decide) (f (i + 1))
  obtain ⟨x, rfl⟩ := oMi_int h1 (by decide +kernel)
  refine lE_a1 f_226_548 ?_
  refine lE_arg (k := 1) f_226_549 f_226_550 f_226_551 f_226_552 f_226_553 (by omega) hL ?_
  refine lE_cv f_226_554 lk_12_73 mt_74 rfl rfl (by decide +kernel) rfl rfl h1 ?_
  refine lE_a2 f_226_557 ?_
  refine lE_arg (k := 1) f_226_558 f_226_559 f_226_560 f_226_561 f_226_562 (by omega) hL ?_
  refine lE_cv f_226_563 lk_12_76 mt_183 rfl rfl (by decide +kernel) rfl rfl h2 ?_
  exact lE_eq f_226_566 (t := 1260) (by decide +kernel) (g _ hI)
theorem law_parts (H : Inv σ) (hL : L ≤ 3072) (hi : i + 6 ≤ L) (hf : ∀ j, oI32 (f j)) (g : ∀ τ, Inv τ → lE L f 1260 (lLs i) [] τ) : lE L f 571 (lLs i) [] σ := by
  obtain ⟨v, τ, υ, h1, h2, hI⟩ := c_parts H (show 20 ≤ 60 by decide) (f (i + 1))
  obtain ⟨x, rfl⟩ := oMi_int h1 (by decide +kernel)
  refine lE_a1 f_226_571 ?_
  refine lE_arg (k := 1) f_226_572 f_226_573 f_226_574 f_226_575 f_226_576 (by omega) hL ?_
  refine lE_cv f_226_577 lk_12_77 mt_84 rfl rfl (by decide +kernel) rfl rfl h1 ?_
  refine lE_a2 f_226_580 ?_
  refine lE_arg (k := 1) f_226_581 f_226_582 f_226_583 f_226_584 f_226_585 (by omega) hL ?_
  refine lE_cv f_226_586 lk_12_80 mt_189 rfl rfl (by decide +kernel) rfl rfl h2 ?_
  exact lE_eq f_226_589 (t := 1260) (by decide +kernel) (g _ hI)
theorem law_loss (H : Inv σ) (hL : L ≤ 3072) (hi : i + 6 ≤ L) (hf : ∀ j, oI32 (f j)) (g : ∀ τ, Inv τ → lE L f 1260 (lLs i) [] τ) : lE L f 594 (lLs i) [] σ := by
  obtain ⟨v, τ, υ, h1, h2, hI⟩ := c_loss H (show 20 ≤ 60 by decide) (f (i + 1))
  obtain ⟨x, rfl⟩ := oMi_int h1 (by decide +kernel)
  refine lE_a1 f_226_594 ?_
  refine lE_arg (k := 1) f_226_595 f_226_596 f_226_597 f_226_598 f_226_599 (by omega) hL ?_
  refine lE_cv f_226_600 lk_12_81 mt_90 rfl rfl (by decide +kernel) rfl rfl h1 ?_
  refine lE_a2 f_226_603 ?_
  refine lE_arg (k := 1) f_226_604 f_226_605 f_226_606 f_226_607 f_226_608 (by omega) hL ?_
  refine lE_cv f_226_609 lk_12_84 mt_195 rfl rfl (by decide +kernel) rfl rfl h2 ?_
  exact lE_eq f_226_612 (t := 1260) (by decide +kernel) (g _ hI)
theorem law_halves (H : Inv σ) (hL : L ≤ 3072) (hi : i + 6 ≤ L) (hf : ∀ j, oI32 (f j)) (g : ∀ τ, Inv τ → lE L f 1260 (lLs i) [] τ) : lE L f 617 (lLs i) [] σ := by
  obtain ⟨v, τ, υ, h1, h2, hI⟩ := c_halves H (show 20 ≤ 60 by decide) (f (i + 1)) (f (i + 2))
  obtain ⟨x, rfl⟩ := oMi_int h1 (by decide +kernel)
  refine lE_a1 f_226_617 ?_
  refine lE_arg (k := 1) f_226_618 f_226_619 f_226_620 f_226_621 f_226_622 (by omega) hL ?_
  refine lE_arg (k := 2) f_226_623 f_226_624 f_226_625 f_226_626 f_226_627 (by omega) hL ?_
  refine lE_cv f_226_628 lk_12_85 mt_62 rfl rfl (by decide +kernel) rfl rfl h1 ?_
  refine lE_a2 f_226_631 ?_
  refine lE_arg (k := 1) f_226_632 f_226_633 f_226_634 f_226_635 f_226_636 (by omega) hL ?_
  refine lE_arg (k := 2) f_226_637 f_226_638 f_226_639 f_226_640 f_226_641 (by omega) hL ?_
  refine lE_cv f_226_642 lk_12_88 mt_174 rfl rfl (by decide +kernel) rfl rfl h2 ?_
  exact lE_eq f_226_645 (t := 1260) (by decide +kernel) (g _ hI)
theorem law_odd (H : Inv σ) (hL : L ≤ 3072) (hi : i + 6 ≤ L) (hf : ∀ j, oI32 (f j)) (g : ∀ τ, Inv τ → lE L f 1260 (lLs i) [] τ) : lE L f 650 (lLs i) [] σ := by
  obtain ⟨v, τ, υ, h1, h2, hI⟩ := c_odd H (show 20 ≤ 60 by decide) (f (i + 1)) (f (i + 2)) (hf (i + 1))
  obtain ⟨x, rfl⟩ := oMi_int h1 (by decide +kernel)
  refine lE_a1 f_226_650 ?_
  refine lE_arg (k := 1) f_226_651 f_226_652 f_226_653 f_226_654 f_226_655 (by omega) hL ?_
  refine lE_arg (k := 2) f_226_656 f_226_657 f_226_658 f_226_659 f_226_660 (by omega) hL ?_
  refine lE_cv f_226_661 lk_12_89 mt_91 rfl rfl (by decide +kernel) rfl rfl h1 ?_
  refine lE_a2 f_226_664 ?_
  refine lE_arg (k := 1) f_226_665 f_226_666 f_226_667 f_226_668 f_226_669 (by omega) hL ?_
  refine lE_arg (k := 2) f_226_670 f_226_671 f_226_672 f_226_673 f_226_674 (by omega) hL ?_
  refine lE_cv f_226_675 lk_12_92 mt_197 rfl rfl (by decide +kernel) rfl rfl h2 ?_
  exact lE_eq f_226_678 (t := 1260) (by decide +kernel) (g _ hI)
theorem law_bear (H : Inv σ) (hL : L ≤ 3072) (hi : i + 6 ≤ L) (hf : ∀ j, oI32 (f j)) (g : ∀ τ, Inv τ → lE L f 1260 (lLs i) [] τ) : lE L f 683 (lLs i) [] σ := by
  obtain ⟨v, τ, υ, h1, h2, hI⟩ := c_bear H (show 20 ≤ 60 by decide) 
  obtain ⟨x, rfl⟩ := oMi_int h1 (by decide +kernel)
  refine lE_a1 f_226_683 ?_
  refine lE_cv f_226_684 lk_12_93 mt_95 rfl rfl (by decide +kernel) rfl rfl h1 ?_
  refine lE_a2 f_226_687 ?_
  refine lE_cv f_226_688 lk_12_96 mt_198 rfl rfl (by decide +kernel) rfl rfl h2 ?_
  exact lE_eq f_226_691 (t := 1260) (by decide +kernel) (g _ hI)
theorem law_proof (H : Inv σ) (hL : L ≤ 3072) (hi : i + 6 ≤ L) (hf : ∀ j, oI32 (f j)) (g : ∀ τ, Inv τ → lE L f 1260 (lLs i) [] τ) : lE L f 696 (lLs i) [] σ := by
  obtain ⟨v, τ, υ, h1, h2, hI⟩ := c_proof H (show 20 ≤ 60 by decide) (f (i + 1))
  obtain ⟨x, rfl⟩ := oMi_int h1 (by decide +kernel)
  refine lE_a1 f_226_696 ?_
  refine lE_arg (k := 1) f_226_697 f_226_698 f_226_699 f_226_700 f_226_701 (by omega) hL ?_
  refine lE_cv f_226_702 lk_12_97 mt_97 rfl rfl (by decide +kernel) rfl rfl h1 ?_
  refine lE_a2 f_226_705 ?_
  refine lE_arg (k := 1) f_226_706 f_226_707 f_226_708 f_226_709 f_226_710 (by omega) hL ?_
  refine lE_cv f_226_711 lk_12_100 mt_199 rfl rfl (by decide +kernel) rfl rfl h2 ?_
  exact lE_eq f_226_714 (t := 1260) (by decide +kernel) (g _ hI)
theorem law_see (H : Inv σ) (hL : L ≤ 3072) (hi : i + 6 ≤ L) (hf : ∀ j, oI32 (f j)) (g : ∀ τ, Inv τ → lE L f 1260 (lLs i) [] τ) : lE L f 719 (lLs i) [] σ := by
  obtain ⟨v, τ, υ, h1, h2, hI⟩ := c_see H (show 20 ≤ 60 by decide) (f (i + 1)) (f (i + 2))
  obtain ⟨x, rfl⟩ := oMi_int h1 (by decide +kernel)
  refine lE_a1 f_226_719 ?_
  refine lE_arg (k := 1) f_226_720 f_226_721 f_226_722 f_226_723 f_226_724 (by omega) hL ?_
  refine lE_arg (k := 2) f_226_725 f_226_726 f_226_727 f_226_728 f_226_729 (by omega) hL ?_
  refine lE_cv f_226_730 lk_12_101 mt_104 rfl rfl (by decide +kernel) rfl rfl h1 ?_
  refine lE_a2 f_226_733 ?_
  refine lE_arg (k := 1) f_226_734 f_226_735 f_226_736 f_226_737 f_226_738 (by omega) hL ?_
  refine lE_arg (k := 2) f_226_739 f_226_740 f_226_741 f_226_742 f_226_743 (by omega) hL ?_
  refine lE_cv f_226_744 lk_12_104 mt_201 rfl rfl (by decide +kernel) rfl rfl h2 ?_
  exact lE_eq f_226_747 (t := 1260) (by decide +kernel) (g _ hI)
theorem law_fits (H : Inv σ) (hL : L ≤ 3072) (hi : i + 6 ≤ L) (hf : ∀ j, oI32 (f j)) (g : ∀ τ, Inv τ → lE L f 1260 (lLs i) [] τ) : lE L f 752 (lLs i) [] σ := by
  obtain ⟨v, τ, υ, h1, h2, hI⟩ := c_fits H (show 20 ≤ 60 by decide) (f (i + 1)) (f (i + 2)) (f (i + 3))
  obtain ⟨x, rfl⟩ := oMi_int h1 (by decide +kernel)
  refine lE_a1 f_226_752 ?_
  refine lE_arg (k := 1) f_226_753 f_226_754 f_226_755 f_226_756 f_226_757 (by omega) hL ?_
  refine lE_arg (k := 2) f_226_758 f_226_759 f_226_760 f_226_761 f_226_762 (by omega) hL ?_
  refine lE_arg (k := 3) f_226_763 f_226_764 f_226_765 f_226_766 f_226_767 (by omega) hL ?_
  refine lE_cv f_226_768 lk_12_105 mt_106 rfl rfl (by decide +kernel) rfl rfl h1 ?_
  refine lE_a2 f_226_771 ?_
  refine lE_arg (k := 1) f_226_772 f_226_773 f_226_774 f_226_775 f_226_776 (by omega) hL ?_
  refine lE_arg (k := 2) f_226_777 f_226_778 f_226_779 f_226_780 f_226_781 (by omega) hL ?_
  refine lE_arg (k := 3) f_226_782 f_226_783 f_226_784 f_226_785 f_226_786 (by omega) hL ?_
  refine lE_cv f_226_787 lk_12_108 mt_203 rfl rfl (by decide +kernel) rfl rfl h2 ?_
  exact lE_eq f_226_790 (t := 1260) (by decide +kernel) (g _ hI)
theorem law_odds (H : Inv σ) (hL : L ≤ 3072) (hi : i + 6 ≤ L) (hf : ∀ j, oI32 (f j)) (g : ∀ τ, Inv τ → lE L f 1260 (lLs i) [] τ) : lE L f 795 (lLs i) [] σ := by
  obtain ⟨v, τ, υ, h1, h2, hI⟩ := c_odds H (show 20 ≤ 60 by decide) (f (i + 1)) (f (i + 2)) (f (i + 3))
  obtain ⟨x, rfl⟩ := oMi_long h1 (by decide +kernel)
  refine lE_a1 f_226_795 ?_
  refine lE_arg (k := 1) f_226_796 f_226_797 f_226_798 f_226_799 f_226_800 (by omega) hL ?_
  refine lE_arg (k := 2) f_226_801 f_226_802 f_226_803 f_226_804 f_226_805 (by omega) hL ?_
  refine lE_arg (k := 3) f_226_806 f_226_807 f_226_808 f_226_809 f_226_810 (by omega) hL ?_
  refine lE_cv f_226_811 lk_12_109 mt_108 rfl rfl (by decide +kernel) rfl rfl h1 ?_
  refine lE_a2 f_226_814 ?_
  refine lE_arg (k := 1) f_226_815 f_226_816 f_226_817 f_226_818 f_226_819 (by omega) hL ?_
  refine lE_arg (k := 2) f_226_820 f_226_821 f_226_822 f_226_823 f_226_824 (by omega) hL ?_
  refine lE_arg (k := 3) f_226_825 f_226_826 f_226_827 f_226_828 f_226_829 (by omega) hL ?_
  refine lE_cv f_226_830 lk_12_113 mt_205 rfl rfl (by decide +kernel) rfl rfl h2 ?_
  exact lE_leq f_226_833 f_226_834 (t := 1260) (by decide +kernel) (g _ hI)
theorem law_mean (H : Inv σ) (hL : L ≤ 3072) (hi : i + 6 ≤ L) (hf : ∀ j, oI32 (f j)) (g : ∀ τ, Inv τ → lE L f 1260 (lLs i) [] τ) : lE L f 839 (lLs i) [] σ := by
  obtain ⟨v, τ, υ, h1, h2, hI⟩ := c_mean H (show 20 ≤ 60 by decide) (f (i + 1))
  obtain ⟨x, rfl⟩ := oMi_long h1 (by decide +kernel)
  refine lE_a1 f_226_839 ?_
  refine lE_arg (k := 1) f_226_840 f_226_841 f_226_842 f_226_843 f_226_844 (by omega) hL ?_
  refine lE_cv f_226_845 lk_12_114 mt_111 rfl rfl (by decide +kernel) rfl rfl h1 ?_
  refine lE_a2 f_226_848 ?_
  refine lE_arg (k := 1) f_226_849 f_226_850 f_226_851 f_226_852 f_226_853 (by omega) hL ?_
  refine lE_cv f_226_854 lk_12_118 mt_208 rfl rfl (by decide +kernel) rfl rfl h2 ?_
  exact lE_leq f_226_857 f_226_858 (t := 1260) (by decide +kernel) (g _ hI)
theorem law_event (H : Inv σ) (hL : L ≤ 3072) (hi : i + 6 ≤ L) (hf : ∀ j, oI32 (f j)) (g : ∀ τ, Inv τ → lE L f 1260 (lLs i) [] τ) : lE L f 863 (lLs i) [] σ := by
  obtain ⟨v, τ, υ, h1, h2, hI⟩ := c_event H (show 20 ≤ 60 by decide) (f (i + 1)) (f (i + 2))
  obtain ⟨x, rfl⟩ := oMi_int h1 (by decide +kernel)
  refine lE_a1 f_226_863 ?_
  refine lE_arg (k := 1) f_226_864 f_226_865 f_226_866 f_226_867 f_226_868 (by omega) hL ?_
  refine lE_arg (k := 2) f_226_869 f_226_870 f_226_871 f_226_872 f_226_873 (by omega) hL ?_
  refine lE_cv f_226_874 lk_12_119 mt_112 rfl rfl (by decide +kernel) rfl rfl h1 ?_
  refine lE_a2 f_226_877 ?_
  refine lE_arg (k := 1) f_226_878 f_226_879 f_226_880 f_226_881 f_226_882 (by omega) hL ?_
  refine lE_arg (k := 2) f_226_883 f_226_884 f_226_885 f_226_886 f_226_887 (by omega) hL ?_
  refine lE_cv f_226_888 lk_12_122 mt_209 rfl rfl (by decide +kernel) rfl rfl h2 ?_
  exact lE_eq f_226_891 (t := 1260) (by decide +kernel) (g _ hI)
theorem law_after (H : Inv σ) (hL : L ≤ 3072) (hi : i + 6 ≤ L) (hf : ∀ j, oI32 (f j)) (g : ∀ τ, Inv τ → lE L f 1260 (lLs i) [] τ) : lE L f 896 (lLs i) [] σ := by
  obtain ⟨v, τ, υ, h1, h2, hI⟩ := c_after H (show 20 ≤ 60 by decide) (f (i + 1))
  obtain ⟨x, rfl⟩ := oMi_int h1 (by decide +kernel)
  refine lE_a1 f_226_896 ?_
  refine lE_arg (k := 1) f_226_897 f_226_898 f_226_899 f_226_900 f_226_901 (by omega) hL ?_
  refine lE_cv f_226_902 lk_12_123 mt_113 rfl rfl (by decide +kernel) rfl rfl h1 ?_
  refine lE_a2 f_226_905 ?_
  refine lE_arg (k := 1) f_226_906 f_226_907 f_226_908 f_226_909 f_226_910 (by omega) hL ?_
  refine lE_cv f_226_911 lk_12_126 mt_210 rfl rfl (by decide +kernel) rfl rfl h2 ?_
  exact lE_eq f_226_914 (t := 1260) (by decide +kernel) (g _ hI)
theorem law_book (H : Inv σ) (hL : L ≤ 3072) (hi : i + 6 ≤ L) (hf : ∀ j, oI32 (f j)) (g : ∀ τ, Inv τ → lE L f 1260 (lLs i) [] τ) : lE L f 919 (lLs i) [] σ := by
  obtain ⟨v, τ, υ, h1, h2, hI⟩ := c_book H (show 20 ≤ 60 by decide) (f (i + 1)) (f (i + 2))
  obtain ⟨x, rfl⟩ := oMi_int h1 (by decide +kernel)
  refine lE_a1 f_226_919 ?_
  refine lE_arg (k := 1) f_226_920 f_226_921 f_226_922 f_226_923 f_226_924 (by omega) hL ?_
  refine lE_arg (k := 2) f_226_925 f_226_926 f_226_927 f_226_928 f_226_929 (by omega) hL ?_
  refine lE_cv f_226_930 lk_12_127 mt_117 rfl rfl (by decide +kernel) rfl rfl h1 ?_
  refine lE_a2 f_226_933 ?_
  refine lE_arg (k := 1) f_226_934 f_226_935 f_226_936 f_226_937 f_226_938 (by omega) hL ?_
  refine lE_arg (k := 2) f_226_939 f_226_940 f_226_941 f_226_942 f_226_943 (by omega) hL ?_
  refine lE_cv f_226_944 lk_12_130 mt_214 rfl rfl (by decide +kernel) rfl rfl h2 ?_
  exact lE_eq f_226_947 (t := 1260) (by decide +kernel) (g _ hI)
theorem law_looked (H : Inv σ) (hL : L ≤ 3072) (hi : i + 6 ≤ L) (hf : ∀ j, oI32 (f j)) (g : ∀ τ, Inv τ → lE L f 1260 (lLs i) [] τ) : lE L f 952 (lLs i) [] σ := by
  obtain ⟨v, τ, υ, h1, h2, hI⟩ := c_looked H (show 20 ≤ 60 by decide) 
  obtain ⟨x, rfl⟩ := oMi_int h1 (by decide +kernel)
  refine lE_a1 f_226_952 ?_
  refine lE_cv f_226_953 lk_12_131 mt_118 rfl rfl (by decide +kernel) rfl rfl h1 ?_
  refine lE_a2 f_226_956 ?_
  refine lE_cv f_226_957 lk_12_134 mt_215 rfl rfl (by decide +kernel) rfl rfl h2 ?_
  exact lE_eq f_226_960 (t := 1260) (by decide +kernel) (g _ hI)
theorem law_judge (H : Inv σ) (hL : L ≤ 3072) (hi : i + 6 ≤ L) (hf : ∀ j, oI32 (f j)) (g : ∀ τ, Inv τ → lE L f 1260 (lLs i) [] τ) : lE L f 965 (lLs i) [] σ := by
  obtain ⟨v, τ, υ, h1, h2, hI⟩ := c_judge H (show 20 ≤ 60 by decide) (f (i + 1)) (f (i + 2)) (hf (i + 2))
  obtain ⟨x, rfl⟩ := oMi_int h1 (by decide +kernel)
  refine lE_a1 f_226_965 ?_
  refine lE_arg (k := 1) f_226_966 f_226_967 f_226_968 f_226_969 f_226_970 (by omega) hL ?_
  refine lE_arg (k := 2) f_226_971 f_226_972 f_226_973 f_226_974 f_226_975 (by omega) hL ?_
  refine lE_cv f_226_976 lk_12_135 mt_119 rfl rfl (by decide +kernel) rfl rfl h1 ?_
  refine lE_a2 f_226_979 ?_
  refine lE_arg (k := 1) f_226_980 f_226_981 f_226_982 f_226_983 f_226_984 (by omega) hL ?_
  refine lE_arg (k := 2) f_226_985 f_226_986 f_226_987 f_226_988 f_226_989 (by omega) hL ?_
  refine lE_cv f_226_990 lk_12_138 mt_216 rfl rfl (by decide +kernel) rfl rfl h2 ?_
  exact lE_eq f_226_993 (t := 1260) (by decide +kernel) (g _ hI)
theorem law_image (H : Inv σ) (hL : L ≤ 3072) (hi : i + 6 ≤ L) (hf : ∀ j, oI32 (f j)) (g : ∀ τ, Inv τ → lE L f 1260 (lLs i) [] τ) : lE L f 998 (lLs i) [] σ := by
  obtain ⟨v, τ, υ, h1, h2, hI⟩ := c_image H (show 20 ≤ 60 by decide) 
  obtain ⟨x, rfl⟩ := oMi_int h1 (by decide +kernel)
  refine lE_a1 f_226_998 ?_
  refine lE_cv f_226_999 lk_12_139 mt_126 rfl rfl (by decide +kernel) rfl rfl h1 ?_
  refine lE_a2 f_226_1002 ?_
  refine lE_cv f_226_1003 lk_12_142 mt_218 rfl rfl (by decide +kernel) rfl rfl h2 ?_
  exact lE_eq f_226_1006 (t := 1260) (by decide +kernel) (g _ hI)
theorem law_undo (H : Inv σ) (hL : L ≤ 3072) (hi : i + 6 ≤ L) (hf : ∀ j, oI32 (f j)) (g : ∀ τ, Inv τ → lE L f 1260 (lLs i) [] τ) : lE L f 1011 (lLs i) [] σ := by
  obtain ⟨v, τ, υ, h1, h2, hI⟩ := c_undo H (show 20 ≤ 60 by decide) 
  obtain ⟨x, rfl⟩ := oMi_int h1 (by decide +kernel)
  refine lE_a1 f_226_1011 ?_
  refine lE_cv f_226_1012 lk_12_143 mt_129 rfl rfl (by decide +kernel) rfl rfl h1 ?_
  refine lE_a2 f_226_1015 ?_
  refine lE_cv f_226_1016 lk_12_146 mt_219 rfl rfl (by decide +kernel) rfl rfl h2 ?_
  exact lE_eq f_226_1019 (t := 1260) (by decide +kernel) (g _ hI)
theorem law_count (H : Inv σ) (hL : L ≤ 3072) (hi : i + 6 ≤ L) (hf : ∀ j, oI32 (f j)) (g : ∀ τ, Inv τ → lE L f 1260 (lLs i) [] τ) : lE L f 1024 (lLs i) [] σ := by
  obtain ⟨v, τ, υ, h1, h2, hI⟩ := c_count H (show 20 ≤ 60 by decide) (f (i + 1))
  obtain ⟨x, rfl⟩ := oMi_int h1 (by decide +kernel)
  refine lE_a1 f_226_1024 ?_
  refine lE_arg (k := 1) f_226_1025 f_226_1026 f_226_1027 f_226_1028 f_226_1029 (by omega) hL ?_
  refine lE_cv f_226_1030 lk_12_147 mt_130 rfl rfl (by decide +kernel) rfl rfl h1 ?_
  refine lE_a2 f_226_1033 ?_
  refine lE_arg (k := 1) f_226_1034 f_226_1035 f_226_1036 f_226_1037 f_226_1038 (by omega) hL ?_
  refine lE_cv f_226_1039 lk_12_150 mt_220 rfl rfl (by decide +kernel) rfl rfl h2 ?_
  exact lE_eq f_226_1042 (t := 1260) (by decide +kernel) (g _ hI)
theorem law_tape (H : Inv σ) (hL : L ≤ 3072) (hi : i + 6 ≤ L) (hf : ∀ j, oI32 (f j)) (g : ∀ τ, Inv τ → lE L f 1260 (lLs i) [] τ) : lE L f 1047 (lLs i) [] σ := by
  obtain ⟨v, τ, υ, h1, h2, hI⟩ := c_tape H (show 20 ≤ 60 by decide) (f (i + 1)) (f (i + 2)) (f (i + 3))
  obtain ⟨x, rfl⟩ := oMi_int h1 (by decide +kernel)
  refine lE_a1 f_226_1047 ?_
  refine lE_arg (k := 1) f_226_1048 f_226_1049 f_226_1050 f_226_1051 f_226_1052 (by omega) hL ?_
  refine lE_arg (k := 2) f_226_1053 f_226_1054 f_226_1055 f_226_1056 f_226_1057 (by omega) hL ?_
  refine lE_arg (k := 3) f_226_1058 f_226_1059 f_226_1060 f_226_1061 f_226_1062 (by omega) hL ?_
  refine lE_cv f_226_1063 lk_12_151 mt_131 rfl rfl (by decide +kernel) rfl rfl h1 ?_
  refine lE_a2 f_226_1066 ?_
  refine lE_arg (k := 1) f_226_1067 f_226_1068 f_226_1069 f_226_1070 f_226_1071 (by omega) hL ?_
  refine lE_arg (k := 2) f_226_1072 f_226_1073 f_226_1074 f_226_1075 f_226_1076 (by omega) hL ?_
  refine lE_arg (k := 3) f_226_1077 f_226_1078 f_226_1079 f_226_1080 f_226_1081 (by omega) hL ?_
  refine lE_cv f_226_1082 lk_12_154 mt_221 rfl rfl (by decide +kernel) rfl rfl h2 ?_
  exact lE_eq f_226_1085 (t := 1260) (by decide +kernel) (g _ hI)
theorem law_item (H : Inv σ) (hL : L ≤ 3072) (hi : i + 6 ≤ L) (hf : ∀ j, oI32 (f j)) (g : ∀ τ, Inv τ → lE L f 1260 (lLs i) [] τ) : lE L f 1090 (lLs i) [] σ := by
  obtain ⟨v, τ, υ, h1, h2, hI⟩ := c_item H (show 20 ≤ 60 by decide) (f (i + 1)) (f (i + 2)) (oLor (oLshl (f (i + 3)) 32) (oLand (f (i + 4)) 4294967295))
  obtain ⟨x, rfl⟩ := oMi_int h1 (by decide +kernel)
  refine lE_a1 f_226_1090 ?_
  refine lE_arg (k := 1) f_226_1091 f_226_1092 f_226_1093 f_226_1094 f_226_1095 (by omega) hL ?_
  refine lE_arg (k := 2) f_226_1096 f_226_1097 f_226_1098 f_226_1099 f_226_1100 (by omega) hL ?_
  refine lE_arg (k := 3) f_226_1101 f_226_1102 f_226_1103 f_226_1104 f_226_1105 (by omega) hL ?_
  refine lE_i2l f_226_1106 ?_
  refine lE_b f_226_1107 (by decide) ?_
  refine lE_shl f_226_1109 ?_
  refine lE_arg (k := 4) f_226_1110 f_226_1111 f_226_1112 f_226_1113 f_226_1114 (by omega) hL ?_
  refine lE_i2l f_226_1115 ?_
  refine lE_lk f_226_1116 (show oKonL 12 155 = some 4294967295 by decide +kernel) ?_
  refine lE_land f_226_1119 ?_
  refine lE_lor f_226_1120 ?_
  refine lE_cv f_226_1121 lk_12_157 mt_135 rfl rfl (by decide +kernel) rfl rfl h1 ?_
  refine lE_a2 f_226_1124 ?_
  refine lE_arg (k := 1) f_226_1125 f_226_1126 f_226_1127 f_226_1128 f_226_1129 (by omega) hL ?_
  refine lE_arg (k := 2) f_226_1130 f_226_1131 f_226_1132 f_226_1133 f_226_1134 (by omega) hL ?_
  refine lE_arg (k := 3) f_226_1135 f_226_1136 f_226_1137 f_226_1138 f_226_1139 (by omega) hL ?_
  refine lE_i2l f_226_1140 ?_
  refine lE_b f_226_1141 (by decide) ?_
  refine lE_shl f_226_1143 ?_
  refine lE_arg (k := 4) f_226_1144 f_226_1145 f_226_1146 f_226_1147 f_226_1148 (by omega) hL ?_
  refine lE_i2l f_226_1149 ?_
  refine lE_lk f_226_1150 (show oKonL 12 155 = some 4294967295 by decide +kernel) ?_
  refine lE_land f_226_1153 ?_
  refine lE_lor f_226_1154 ?_
  refine lE_cv f_226_1155 lk_12_161 mt_222 rfl rfl (by decide +kernel) rfl rfl h2 ?_
  exact lE_eq f_226_1158 (t := 1260) (by decide +kernel) (g _ hI)
theorem law_peek (H : Inv σ) (hL : L ≤ 3072) (hi : i + 6 ≤ L) (hf : ∀ j, oI32 (f j)) (g : ∀ τ, Inv τ → lE L f 1260 (lLs i) [] τ) : lE L f 1163 (lLs i) [] σ := by
  obtain ⟨v, τ, υ, h1, h2, hI⟩ := c_peek H (show 20 ≤ 60 by decide) (f (i + 1)) (f (i + 2))
  obtain ⟨x, rfl⟩ := oMi_long h1 (by decide +kernel)
  refine lE_a1 f_226_1163 ?_
  refine lE_arg (k := 1) f_226_1164 f_226_1165 f_226_1166 f_226_1167 f_226_1168 (by omega) hL ?_
  refine lE_arg (k := 2) f_226_1169 f_226_1170 f_226_1171 f_226_1172 f_226_1173 (by omega) hL ?_
  refine lE_cv f_226_1174 lk_12_162 mt_138 rfl rfl (by decide +kernel) rfl rfl h1 ?_
  refine lE_a2 f_226_1177 ?_
  refine lE_arg (k := 1) f_226_1178 f_226_1179 f_226_1180 f_226_1181 f_226_1182 (by omega) hL ?_
  refine lE_arg (k := 2) f_226_1183 f_226_1184 f_226_1185 f_226_1186 f_226_1187 (by omega) hL ?_
  refine lE_cv f_226_1188 lk_12_166 mt_224 rfl rfl (by decide +kernel) rfl rfl h2 ?_
  exact lE_leq f_226_1191 f_226_1192 (t := 1260) (by decide +kernel) (g _ hI)
theorem law_shift (H : Inv σ) (hL : L ≤ 3072) (hi : i + 6 ≤ L) (hf : ∀ j, oI32 (f j)) (g : ∀ τ, Inv τ → lE L f 1260 (lLs i) [] τ) : lE L f 1197 (lLs i) [] σ := by
  obtain ⟨v, τ, υ, h1, h2, hI⟩ := c_shift H (show 20 ≤ 60 by decide) (f (i + 1)) (f (i + 2)) (f (i + 3)) (f (i + 4)) (f (i + 5)) (hf (i + 5))
  obtain ⟨x, rfl⟩ := oMi_int h1 (by decide +kernel)
  refine lE_a1 f_226_1197 ?_
  refine lE_arg (k := 1) f_226_1198 f_226_1199 f_226_1200 f_226_1201 f_226_1202 (by omega) hL ?_
  refine lE_arg (k := 2) f_226_1203 f_226_1204 f_226_1205 f_226_1206 f_226_1207 (by omega) hL ?_
  refine lE_arg (k := 3) f_226_1208 f_226_1209 f_226_1210 f_226_1211 f_226_1212 (by omega) hL ?_
  refine lE_arg (k := 4) f_226_1213 f_226_1214 f_226_1215 f_226_1216 f_226_1217 (by omega) hL ?_
  refine lE_arg (k := 5) f_226_1218 f_226_1219 f_226_1220 f_226_1221 f_226_1222 (by omega) hL ?_
  refine lE_cv f_226_1223 lk_12_167 mt_139 rfl rfl (by decide +kernel) rfl rfl h1 ?_
  refine lE_a2 f_226_1226 ?_
  refine lE_arg (k := 1) f_226_1227 f_226_1228 f_226_1229 f_226_1230 f_226_1231 (by omega) hL ?_
  refine lE_arg (k := 2) f_226_1232 f_226_1233 f_226_1234 f_226_1235 f_226_1236 (by omega) hL ?_
  refine lE_arg (k := 3) f_226_1237 f_226_1238 f_226_1239 f_226_1240 f_226_1241 (by omega) hL ?_
  refine lE_arg (k := 4) f_226_1242 f_226_1243 f_226_1244 f_226_1245 f_226_1246 (by omega) hL ?_
  refine lE_arg (k := 5) f_226_1247 f_226_1248 f_226_1249 f_226_1250 f_226_1251 (by omega) hL ?_
  refine lE_cv f_226_1252 lk_12_171 mt_225 rfl rfl (by decide +kernel) rfl rfl h2 ?_
  exact lE_eq f_226_1255 (t := 1260) (by decide +kernel) (g _ hI)
end LCA

