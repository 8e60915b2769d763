set_option maxRecDepth 100000 in
set_option maxHeartbeats 4000000 in
theorem lc_L_law_18 (Z : ZZ) (l : Launch) (a1 : Nat) (a2 : Nat) {args : Array Value} {h0 h1 : HP} {v0 : Int32} {QQ : State → List Frame → State → Prop} (hret : ∀ (pc : Nat) (lo : List (Nat × Value)) (v : Int32) (h : HP), decode cL_law pc = .ok (.ireturn, 1) → Sim Z l cL_law RL 4 12 436 (some .boolean) "law" args QQ h0 h1 v0 pc lo [.int v] h (some (v, h))) (K : HP → Option (Int32 × HP)) (F : Int32 → HP → Option (Int32 × HP))
    (hK : ∀ (h : HP), Sim Z l cL_law RL 4 12 436 (some .boolean) "law" args QQ h0 h1 v0 1980 [] [] h (K h))
    (hF : ∀ (b3 : Int32) (h : HP), Sim Z l cL_law RL 4 12 436 (some .boolean) "law" args QQ h0 h1 v0 18 [(0, .ref (zsc Z)), (1, .ref (zb Z + a1)), (2, .ref (zb Z + a2)), (3, .int b3)] [] h (F b3 h)) :
    ∀ (b3 : Int32) (h : HP), Sim Z l cL_law RL 4 12 436 (some .boolean) "law" args QQ h0 h1 v0 18 [(0, .ref (zsc Z)), (1, .ref (zb Z + a1)), (2, .ref (zb Z + a2)), (3, .int b3)] [] h (lb_L_law_18 Z a1 a2 K F b3 h) := by
  intro b3 h
  unfold lb_L_law_18
  refine S_iload_n dL_law_18 rfl 3 rfl (pc' := 19) rfl ?_
  refine S_aload_n dL_law_19 rfl 0 rfl (pc' := 20) rfl ?_
  refine S_slen dL_law_20 (pc' := 21) rfl ?_
  refine S_bipush dL_law_21 (v := 6) rfl (pc' := 23) rfl ?_
  refine S_isub dL_law_23 (pc' := 24) rfl ?_
  refine S_icmp_gt dL_law_24 1980 rfl (pc' := 27) rfl (fun g24 => ?_) (fun g24 => ?_)
  · refine Sim.sub [] rfl ?_
    exact hK _
  · refine S_aload_n dL_law_27 rfl 0 rfl (pc' := 28) rfl ?_
    refine S_iload_n dL_law_28 rfl 3 rfl (pc' := 29) rfl ?_
    refine S_sld dL_law_29 (pc' := 30) rfl (fun x29 => ?_)
    refine S_bipush dL_law_30 (v := 63) rfl (pc' := 32) rfl ?_
    refine S_iand dL_law_32 (pc' := 33) rfl ?_
    refine Sim.ite (fun g33_0 => ?_) (fun g33_0 => ?_)
    · refine S_tabIn dL_law_33 g33_0 0 rfl (by decide) (off := 235) rfl 268 rfl ?_
      refine S_aload_n dL_law_268 rfl 1 rfl (pc' := 269) rfl ?_
      refine S_aload_n dL_law_269 rfl 0 rfl (pc' := 270) rfl ?_
      refine S_iload_n dL_law_270 rfl 3 rfl (pc' := 271) rfl ?_
      refine S_iconst dL_law_271 (v := 1) rfl (pc' := 272) rfl ?_
      refine S_iadd dL_law_272 (pc' := 273) rfl ?_
      refine S_sld dL_law_273 (pc' := 274) rfl (fun x273 => ?_)
      refine S_aload_n dL_law_274 rfl 0 rfl (pc' := 275) rfl ?_
      refine S_iload_n dL_law_275 rfl 3 rfl (pc' := 276) rfl ?_
      refine S_iconst dL_law_276 (v := 2) rfl (pc' := 277) rfl ?_
      refine S_iadd dL_law_277 (pc' := 278) rfl ?_
      refine S_sld dL_law_278 (pc' := 279) rfl (fun x278 => ?_)
      refine S_aload_n dL_law_279 rfl 0 rfl (pc' := 280) rfl ?_
      refine S_iload_n dL_law_280 rfl 3 rfl (pc' := 281) rfl ?_
      refine S_iconst dL_law_281 (v := 3) rfl (pc' := 282) rfl ?_
      refine S_iadd dL_law_282 (pc' := 283) rfl ?_
      refine S_sld dL_law_283 (pc' := 284) rfl (fun x283 => ?_)
      refine S_invi ml_L_13 mi_X5_row (ci := 5) ⟨_, rfl, rfl⟩ (by decide) dL_law_284 [.int x273, .int x278, .int x283] rfl (fun v h2 q => c_X5_row Z l _ _ _ _ _ q) ⟨Nat.le_of_ble_eq_true rfl, Nat.le_of_ble_eq_true rfl⟩ (rest := []) (Nat.le_of_ble_eq_true rfl) rfl (pc' := 287) rfl (fun x284 h284 => ?_)
      refine S_aload_n dL_law_287 rfl 2 rfl (pc' := 288) rfl ?_
      refine S_aload_n dL_law_288 rfl 0 rfl (pc' := 289) rfl ?_
      refine S_iload_n dL_law_289 rfl 3 rfl (pc' := 290) rfl ?_
      refine S_iconst dL_law_290 (v := 1) rfl (pc' := 291) rfl ?_
      refine S_iadd dL_law_291 (pc' := 292) rfl ?_
      refine S_sld dL_law_292 (pc' := 293) rfl (fun x292 => ?_)
      refine S_aload_n dL_law_293 rfl 0 rfl (pc' := 294) rfl ?_
      refine S_iload_n dL_law_294 rfl 3 rfl (pc' := 295) rfl ?_
      refine S_iconst dL_law_295 (v := 2) rfl (pc' := 296) rfl ?_
      refine S_iadd dL_law_296 (pc' := 297) rfl ?_
      refine S_sld dL_law_297 (pc' := 298) rfl (fun x297 => ?_)
      refine S_aload_n dL_law_298 rfl 0 rfl (pc' := 299) rfl ?_
      refine S_iload_n dL_law_299 rfl 3 rfl (pc' := 300) rfl ?_
      refine S_iconst dL_law_300 (v := 3) rfl (pc' := 301) rfl ?_
      refine S_iadd dL_law_301 (pc' := 302) rfl ?_
      refine S_sld dL_law_302 (pc' := 303) rfl (fun x302 => ?_)
      refine S_invi ml_L_17 mi_X6_row (ci := 6) ⟨_, rfl, rfl⟩ (by decide) dL_law_303 [.int x292, .int x297, .int x302] rfl (fun v h2 q => c_X6_row Z l _ _ _ _ _ q) ⟨Nat.le_of_ble_eq_true rfl, Nat.le_of_ble_eq_true rfl⟩ (rest := [.int x284]) (Nat.le_of_ble_eq_true rfl) rfl (pc' := 306) rfl (fun x303 h303 => ?_)
      refine S_icmp_eq dL_law_306 1974 rfl (pc' := 309) rfl (fun g306 => ?_) (fun g306 => ?_)
      · refine S_iinc dL_law_1974 (q := 3) rfl (v := b3 + 6) rfl (by decide) (lo' := [(3, .int (b3 + 6)), (0, .ref (zsc Z)), (1, .ref (zb Z + a1)), (2, .ref (zb Z + a2))]) rfl (pc' := 1977) rfl ?_
        refine S_goto dL_law_1977 18 rfl ?_
        refine Sim.sub [1, 2, 3, 0] rfl ?_
        exact hF _ _
      · refine S_iconst dL_law_309 (v := 0) rfl (pc' := 310) rfl ?_
        exact hret 310 [(0, .ref (zsc Z)), (1, .ref (zb Z + a1)), (2, .ref (zb Z + a2)), (3, .int b3)] 0 h303 dL_law_310
    refine Sim.ite (fun g33_1 => ?_) (fun g33_1 => ?_)
    · refine S_tabIn dL_law_33 g33_1 1 rfl (by decide) (off := 278) rfl 311 rfl ?_
      refine S_aload_n dL_law_311 rfl 1 rfl (pc' := 312) rfl ?_
      refine S_aload_n dL_law_312 rfl 0 rfl (pc' := 313) rfl ?_
      refine S_iload_n dL_law_313 rfl 3 rfl (pc' := 314) rfl ?_
      refine S_iconst dL_law_314 (v := 1) rfl (pc' := 315) rfl ?_
      refine S_iadd dL_law_315 (pc' := 316) rfl ?_
      refine S_sld dL_law_316 (pc' := 317) rfl (fun x316 => ?_)
      refine S_aload_n dL_law_317 rfl 0 rfl (pc' := 318) rfl ?_
      refine S_iload_n dL_law_318 rfl 3 rfl (pc' := 319) rfl ?_
      refine S_iconst dL_law_319 (v := 2) rfl (pc' := 320) rfl ?_
      refine S_iadd dL_law_320 (pc' := 321) rfl ?_
      refine S_sld dL_law_321 (pc' := 322) rfl (fun x321 => ?_)
      refine S_aload_n dL_law_322 rfl 0 rfl (pc' := 323) rfl ?_
      refine S_iload_n dL_law_323 rfl 3 rfl (pc' := 324) rfl ?_
      refine S_iconst dL_law_324 (v := 3) rfl (pc' := 325) rfl ?_
      refine S_iadd dL_law_325 (pc' := 326) rfl ?_
      refine S_sld dL_law_326 (pc' := 327) rfl (fun x326 => ?_)
      refine S_i2l dL_law_327 (pc' := 328) rfl ?_
      refine S_bipush dL_law_328 (v := 32) rfl (pc' := 330) rfl ?_
      refine S_lshl dL_law_330 (pc' := 331) rfl ?_
      refine S_aload_n dL_law_331 rfl 0 rfl (pc' := 332) rfl ?_
      refine S_iload_n dL_law_332 rfl 3 rfl (pc' := 333) rfl ?_
      refine S_iconst dL_law_333 (v := 4) rfl (pc' := 334) rfl ?_
      refine S_iadd dL_law_334 (pc' := 335) rfl ?_
      refine S_sld dL_law_335 (pc' := 336) rfl (fun x335 => ?_)
      refine S_i2l dL_law_336 (pc' := 337) rfl ?_
      refine S_ldc2 dL_law_337 kc_L_18 (pc' := 340) rfl ?_
      refine S_land dL_law_340 (pc' := 341) rfl ?_
      refine S_lor dL_law_341 (pc' := 342) rfl ?_
      refine S_invi ml_L_20 mi_X5_set (ci := 5) ⟨_, rfl, rfl⟩ (by decide) dL_law_342 [.int x316, .int x321, .long ((x326.toInt64 <<< ((32 : Int32).toInt64 &&& 63)) ||| (x335.toInt64 &&& 4294967295))] rfl (fun v h2 q => c_X5_set Z l _ _ _ _ _ q) ⟨Nat.le_of_ble_eq_true rfl, Nat.le_of_ble_eq_true rfl⟩ (rest := []) (Nat.le_of_ble_eq_true rfl) rfl (pc' := 345) rfl (fun x342 h342 => ?_)
      refine S_aload_n dL_law_345 rfl 2 rfl (pc' := 346) rfl ?_
      refine S_aload_n dL_law_346 rfl 0 rfl (pc' := 347) rfl ?_
      refine S_iload_n dL_law_347 rfl 3 rfl (pc' := 348) rfl ?_
      refine S_iconst dL_law_348 (v := 1) rfl (pc' := 349) rfl ?_
      refine S_iadd dL_law_349 (pc' := 350) rfl ?_
      refine S_sld dL_law_350 (pc' := 351) rfl (fun x350 => ?_)
      refine S_aload_n dL_law_351 rfl 0 rfl (pc' := 352) rfl ?_
      refine S_iload_n dL_law_352 rfl 3 rfl (pc' := 353) rfl ?_
      refine S_iconst dL_law_353 (v := 2) rfl (pc' := 354) rfl ?_
      refine S_iadd dL_law_354 (pc' := 355) rfl ?_
      refine S_sld dL_law_355 (pc' := 356) rfl (fun x355 => ?_)
      refine S_aload_n dL_law_356 rfl 0 rfl (pc' := 357) rfl ?_
      refine S_iload_n dL_law_357 rfl 3 rfl (pc' := 358) rfl ?_
      refine S_iconst dL_law_358 (v := 3) rfl (pc' := 359) rfl ?_
      refine S_iadd dL_law_359 (pc' := 360) rfl ?_
      refine S_sld dL_law_360 (pc' := 361) rfl (fun x360 => ?_)
      refine S_i2l dL_law_361 (pc' := 362) rfl ?_
      refine S_bipush dL_law_362 (v := 32) rfl (pc' := 364) rfl ?_
      refine S_lshl dL_law_364 (pc' := 365) rfl ?_
      refine S_aload_n dL_law_365 rfl 0 rfl (pc' := 366) rfl ?_
      refine S_iload_n dL_law_366 rfl 3 rfl (pc' := 367) rfl ?_
      refine S_iconst dL_law_367 (v := 4) rfl (pc' := 368) rfl ?_
      refine S_iadd dL_law_368 (pc' := 369) rfl ?_
      refine S_sld dL_law_369 (pc' := 370) rfl (fun x369 => ?_)
      refine S_i2l dL_law_370 (pc' := 371) rfl ?_
      refine S_ldc2 dL_law_371 kc_L_18 (pc' := 374) rfl ?_
      refine S_land dL_law_374 (pc' := 375) rfl ?_
      refine S_lor dL_law_375 (pc' := 376) rfl ?_
      refine S_invi ml_L_24 mi_X6_set (ci := 6) ⟨_, rfl, rfl⟩ (by decide) dL_law_376 [.int x350, .int x355, .long ((x360.toInt64 <<< ((32 : Int32).toInt64 &&& 63)) ||| (x369.toInt64 &&& 4294967295))] rfl (fun v h2 q => c_X6_set Z l _ _ _ _ _ q) ⟨Nat.le_of_ble_eq_true rfl, Nat.le_of_ble_eq_true rfl⟩ (rest := [.int x342]) (Nat.le_of_ble_eq_true rfl) rfl (pc' := 379) rfl (fun x376 h376 => ?_)
      refine S_icmp_eq dL_law_379 1974 rfl (pc' := 382) rfl (fun g379 => ?_) (fun g379 => ?_)
      · refine S_iinc dL_law_1974 (q := 3) rfl (v := b3 + 6) rfl (by decide) (lo' := [(3, .int (b3 + 6)), (0, .ref (zsc Z)), (1, .ref (zb Z + a1)), (2, .ref (zb Z + a2))]) rfl (pc' := 1977) rfl ?_
        refine S_goto dL_law_1977 18 rfl ?_
        refine Sim.sub [1, 2, 3, 0] rfl ?_
        exact hF _ _
      · refine S_iconst dL_law_382 (v := 0) rfl (pc' := 383) rfl ?_
        exact hret 383 [(0, .ref (zsc Z)), (1, .ref (zb Z + a1)), (2, .ref (zb Z + a2)), (3, .int b3)] 0 h376 dL_law_383
    refine Sim.ite (fun g33_2 => ?_) (fun g33_2 => ?_)
    · refine S_tabIn dL_law_33 g33_2 2 rfl (by decide) (off := 351) rfl 384 rfl ?_
      refine S_aload_n dL_law_384 rfl 1 rfl (pc' := 385) rfl ?_
      refine S_aload_n dL_law_385 rfl 0 rfl (pc' := 386) rfl ?_
      refine S_iload_n dL_law_386 rfl 3 rfl (pc' := 387) rfl ?_
      refine S_iconst dL_law_387 (v := 1) rfl (pc' := 388) rfl ?_
      refine S_iadd dL_law_388 (pc' := 389) rfl ?_
      refine S_sld dL_law_389 (pc' := 390) rfl (fun x389 => ?_)
      refine S_aload_n dL_law_390 rfl 0 rfl (pc' := 391) rfl ?_
      refine S_iload_n dL_law_391 rfl 3 rfl (pc' := 392) rfl ?_
      refine S_iconst dL_law_392 (v := 2) rfl (pc' := 393) rfl ?_
      refine S_iadd dL_law_393 (pc' := 394) rfl ?_
      refine S_sld dL_law_394 (pc' := 395) rfl (fun x394 => ?_)
      refine S_aload_n dL_law_395 rfl 0 rfl (pc' := 396) rfl ?_
      refine S_iload_n dL_law_396 rfl 3 rfl (pc' := 397) rfl ?_
      refine S_iconst dL_law_397 (v := 3) rfl (pc' := 398) rfl ?_
      refine S_iadd dL_law_398 (pc' := 399) rfl ?_
      refine S_sld dL_law_399 (pc' := 400) rfl (fun x399 => ?_)
      refine S_aload_n dL_law_400 rfl 0 rfl (pc' := 401) rfl ?_
      refine S_iload_n dL_law_401 rfl 3 rfl (pc' := 402) rfl ?_
      refine S_iconst dL_law_402 (v := 4) rfl (pc' := 403) rfl ?_
      refine S_iadd dL_law_403 (pc' := 404) rfl ?_
      refine S_sld dL_law_404 (pc' := 405) rfl (fun x404 => ?_)
      refine S_aload_n dL_law_405 rfl 0 rfl (pc' := 406) rfl ?_
      refine S_iload_n dL_law_406 rfl 3 rfl (pc' := 407) rfl ?_
      refine S_iconst dL_law_407 (v := 5) rfl (pc' := 408) rfl ?_
      refine S_iadd dL_law_408 (pc' := 409) rfl ?_
      refine S_sld dL_law_409 (pc' := 410) rfl (fun x409 => ?_)
      refine S_invi ml_L_25 mi_X5_copy (ci := 5) ⟨_, rfl, rfl⟩ (by decide) dL_law_410 [.int x389, .int x394, .int x399, .int x404, .int x409] rfl (fun v h2 q => c_X5_copy Z l _ _ _ _ _ _ _ q) ⟨Nat.le_of_ble_eq_true rfl, Nat.le_of_ble_eq_true rfl⟩ (rest := []) (Nat.le_of_ble_eq_true rfl) rfl (pc' := 413) rfl (fun x410 h410 => ?_)
      refine S_aload_n dL_law_413 rfl 2 rfl (pc' := 414) rfl ?_
      refine S_aload_n dL_law_414 rfl 0 rfl (pc' := 415) rfl ?_
      refine S_iload_n dL_law_415 rfl 3 rfl (pc' := 416) rfl ?_
      refine S_iconst dL_law_416 (v := 1) rfl (pc' := 417) rfl ?_
      refine S_iadd dL_law_417 (pc' := 418) rfl ?_
      refine S_sld dL_law_418 (pc' := 419) rfl (fun x418 => ?_)
      refine S_aload_n dL_law_419 rfl 0 rfl (pc' := 420) rfl ?_
      refine S_iload_n dL_law_420 rfl 3 rfl (pc' := 421) rfl ?_
      refine S_iconst dL_law_421 (v := 2) rfl (pc' := 422) rfl ?_
      refine S_iadd dL_law_422 (pc' := 423) rfl ?_
      refine S_sld dL_law_423 (pc' := 424) rfl (fun x423 => ?_)
      refine S_aload_n dL_law_424 rfl 0 rfl (pc' := 425) rfl ?_
      refine S_iload_n dL_law_425 rfl 3 rfl (pc' := 426) rfl ?_
      refine S_iconst dL_law_426 (v := 3) rfl (pc' := 427) rfl ?_
      refine S_iadd dL_law_427 (pc' := 428) rfl ?_
      refine S_sld dL_law_428 (pc' := 429) rfl (fun x428 => ?_)
      refine S_aload_n dL_law_429 rfl 0 rfl (pc' := 430) rfl ?_
      refine S_iload_n dL_law_430 rfl 3 rfl (pc' := 431) rfl ?_
      refine S_iconst dL_law_431 (v := 4) rfl (pc' := 432) rfl ?_
      refine S_iadd dL_law_432 (pc' := 433) rfl ?_
      refine S_sld dL_law_433 (pc' := 434) rfl (fun x433 => ?_)
      refine S_aload_n dL_law_434 rfl 0 rfl (pc' := 435) rfl ?_
      refine S_iload_n dL_law_435 rfl 3 rfl (pc' := 436) rfl ?_
      refine S_iconst dL_law_436 (v := 5) rfl (pc' := 437) rfl ?_
      refine S_iadd dL_law_437 (pc' := 438) rfl ?_
      refine S_sld dL_law_438 (pc' := 439) rfl (fun x438 => ?_)
      refine S_invi ml_L_29 mi_X6_copy (ci := 6) ⟨_, rfl, rfl⟩ (by decide) dL_law_439 [.int x418, .int x423, .int x428, .int x433, .int x438] rfl (fun v h2 q => c_X6_copy Z l _ _ _ _ _ _ _ q) ⟨Nat.le_of_ble_eq_true rfl, Nat.le_of_ble_eq_true rfl⟩ (rest := [.int x410]) (Nat.le_of_ble_eq_true rfl) rfl (pc' := 442) rfl (fun x439 h439 => ?_)
      refine S_icmp_eq dL_law_442 1974 rfl (pc' := 445) rfl (fun g442 => ?_) (fun g442 => ?_)
      · refine S_iinc dL_law_1974 (q := 3) rfl (v := b3 + 6) rfl (by decide) (lo' := [(3, .int (b3 + 6)), (0, .ref (zsc Z)), (1, .ref (zb Z + a1)), (2, .ref (zb Z + a2))]) rfl (pc' := 1977) rfl ?_
        refine S_goto dL_law_1977 18 rfl ?_
        refine Sim.sub [1, 2, 3, 0] rfl ?_
        exact hF _ _
      · refine S_iconst dL_law_445 (v := 0) rfl (pc' := 446) rfl ?_
        exact hret 446 [(0, .ref (zsc Z)), (1, .ref (zb Z + a1)), (2, .ref (zb Z + a2)), (3, .int b3)] 0 h439 dL_law_446
    refine Sim.ite (fun g33_3 => ?_) (fun g33_3 => ?_)
    · refine S_tabIn dL_law_33 g33_3 3 rfl (by decide) (off := 414) rfl 447 rfl ?_
      refine S_aload_n dL_law_447 rfl 1 rfl (pc' := 448) rfl ?_
      refine S_aload_n dL_law_448 rfl 0 rfl (pc' := 449) rfl ?_
      refine S_iload_n dL_law_449 rfl 3 rfl (pc' := 450) rfl ?_
      refine S_iconst dL_law_450 (v := 1) rfl (pc' := 451) rfl ?_
      refine S_iadd dL_law_451 (pc' := 452) rfl ?_
      refine S_sld dL_law_452 (pc' := 453) rfl (fun x452 => ?_)
      refine S_aload_n dL_law_453 rfl 0 rfl (pc' := 454) rfl ?_
      refine S_iload_n dL_law_454 rfl 3 rfl (pc' := 455) rfl ?_
      refine S_iconst dL_law_455 (v := 2) rfl (pc' := 456) rfl ?_
      refine S_iadd dL_law_456 (pc' := 457) rfl ?_
      refine S_sld dL_law_457 (pc' := 458) rfl (fun x457 => ?_)
      refine S_invl ml_L_30 mi_X5_element (ci := 5) ⟨_, rfl, rfl⟩ (by decide) dL_law_458 [.int x452, .int x457] rfl (fun v h2 q => c_X5_element Z l _ _ _ _ q) ⟨Nat.le_of_ble_eq_true rfl, Nat.le_of_ble_eq_true rfl⟩ (rest := []) (Nat.le_of_ble_eq_true rfl) rfl (pc' := 461) rfl (fun x458 h458 => ?_)
      refine S_aload_n dL_law_461 rfl 2 rfl (pc' := 462) rfl ?_
      refine S_aload_n dL_law_462 rfl 0 rfl (pc' := 463) rfl ?_
      refine S_iload_n dL_law_463 rfl 3 rfl (pc' := 464) rfl ?_
      refine S_iconst dL_law_464 (v := 1) rfl (pc' := 465) rfl ?_
      refine S_iadd dL_law_465 (pc' := 466) rfl ?_
      refine S_sld dL_law_466 (pc' := 467) rfl (fun x466 => ?_)
      refine S_aload_n dL_law_467 rfl 0 rfl (pc' := 468) rfl ?_
      refine S_iload_n dL_law_468 rfl 3 rfl (pc' := 469) rfl ?_
      refine S_iconst dL_law_469 (v := 2) rfl (pc' := 470) rfl ?_
      refine S_iadd dL_law_470 (pc' := 471) rfl ?_
      refine S_sld dL_law_471 (pc' := 472) rfl (fun x471 => ?_)
      refine S_invl ml_L_34 mi_X6_element (ci := 6) ⟨_, rfl, rfl⟩ (by decide) dL_law_472 [.int x466, .int x471] rfl (fun v h2 q => c_X6_element Z l _ _ _ _ q) ⟨Nat.le_of_ble_eq_true rfl, Nat.le_of_ble_eq_true rfl⟩ (rest := [.long x458]) (Nat.le_of_ble_eq_true rfl) rfl (pc' := 475) rfl (fun x472 h472 => ?_)
      refine S_lcmp dL_law_475 (pc' := 476) rfl ?_
      refine S_if_eq dL_law_476 1974 rfl (pc' := 479) rfl (fun g476 => ?_) (fun g476 => ?_)
      · refine S_iinc dL_law_1974 (q := 3) rfl (v := b3 + 6) rfl (by decide) (lo' := [(3, .int (b3 + 6)), (0, .ref (zsc Z)), (1, .ref (zb Z + a1)), (2, .ref (zb Z + a2))]) rfl (pc' := 1977) rfl ?_
        refine S_goto dL_law_1977 18 rfl ?_
        refine Sim.sub [1, 2, 3, 0] rfl ?_
        exact hF _ _
      · refine S_iconst dL_law_479 (v := 0) rfl (pc' := 480) rfl ?_
        exact hret 480 [(0, .ref (zsc Z)), (1, .ref (zb Z + a1)), (2, .ref (zb Z + a2)), (3, .int b3)] 0 h472 dL_law_480
    refine Sim.ite (fun g33_4 => ?_) (fun g33_4 => ?_)
    · refine S_tabIn dL_law_33 g33_4 4 rfl (by decide) (off := 448) rfl 481 rfl ?_
      refine S_aload_n dL_law_481 rfl 1 rfl (pc' := 482) rfl ?_
      refine S_aload_n dL_law_482 rfl 0 rfl (pc' := 483) rfl ?_
      refine S_iload_n dL_law_483 rfl 3 rfl (pc' := 484) rfl ?_
      refine S_iconst dL_law_484 (v := 1) rfl (pc' := 485) rfl ?_
      refine S_iadd dL_law_485 (pc' := 486) rfl ?_
      refine S_sld dL_law_486 (pc' := 487) rfl (fun x486 => ?_)
      refine S_invi ml_L_35 mi_X5_holds (ci := 5) ⟨_, rfl, rfl⟩ (by decide) dL_law_487 [.int x486] rfl (fun v h2 q => c_X5_holds Z l _ _ _ q) ⟨Nat.le_of_ble_eq_true rfl, Nat.le_of_ble_eq_true rfl⟩ (rest := []) (Nat.le_of_ble_eq_true rfl) rfl (pc' := 490) rfl (fun x487 h487 => ?_)
      refine S_aload_n dL_law_490 rfl 2 rfl (pc' := 491) rfl ?_
      refine S_aload_n dL_law_491 rfl 0 rfl (pc' := 492) rfl ?_
      refine S_iload_n dL_law_492 rfl 3 rfl (pc' := 493) rfl ?_
      refine S_iconst dL_law_493 (v := 1) rfl (pc' := 494) rfl ?_
      refine S_iadd dL_law_494 (pc' := 495) rfl ?_
      refine S_sld dL_law_495 (pc' := 496) rfl (fun x495 => ?_)
      refine S_invi ml_L_39 mi_X6_holds (ci := 6) ⟨_, rfl, rfl⟩ (by decide) dL_law_496 [.int x495] rfl (fun v h2 q => c_X6_holds Z l _ _ _ q) ⟨Nat.le_of_ble_eq_true rfl, Nat.le_of_ble_eq_true rfl⟩ (rest := [.int x487]) (Nat.le_of_ble_eq_true rfl) rfl (pc' := 499) rfl (fun x496 h496 => ?_)
      refine S_icmp_eq dL_law_499 1974 rfl (pc' := 502) rfl (fun g499 => ?_) (fun g499 => ?_)
      · refine S_iinc dL_law_1974 (q := 3) rfl (v := b3 + 6) rfl (by decide) (lo' := [(3, .int (b3 + 6)), (0, .ref (zsc Z)), (1, .ref (zb Z + a1)), (2, .ref (zb Z + a2))]) rfl (pc' := 1977) rfl ?_
        refine S_goto dL_law_1977 18 rfl ?_
        refine Sim.sub [1, 2, 3, 0] rfl ?_
        exact hF _ _
      · refine S_iconst dL_law_502 (v := 0) rfl (pc' := 503) rfl ?_
        exact hret 503 [(0, .ref (zsc Z)), (1, .ref (zb Z + a1)), (2, .ref (zb Z + a2)), (3, .int b3)] 0 h496 dL_law_503
    refine Sim.ite (fun g33_5 => ?_) (fun g33_5 => ?_)
    · refine S_tabIn dL_law_33 g33_5 5 rfl (by decide) (off := 471) rfl 504 rfl ?_
      refine S_aload_n dL_law_504 rfl 1 rfl (pc' := 505) rfl ?_
      refine S_aload_n dL_law_505 rfl 0 rfl (pc' := 506) rfl ?_
      refine S_iload_n dL_law_506 rfl 3 rfl (pc' := 507) rfl ?_
      refine S_iconst dL_law_507 (v := 1) rfl (pc' := 508) rfl ?_
      refine S_iadd dL_law_508 (pc' := 509) rfl ?_
      refine S_sld dL_law_509 (pc' := 510) rfl (fun x509 => ?_)
      refine S_aload_n dL_law_510 rfl 0 rfl (pc' := 511) rfl ?_
      refine S_iload_n dL_law_511 rfl 3 rfl (pc' := 512) rfl ?_
      refine S_iconst dL_law_512 (v := 2) rfl (pc' := 513) rfl ?_
      refine S_iadd dL_law_513 (pc' := 514) rfl ?_
      refine S_sld dL_law_514 (pc' := 515) rfl (fun x514 => ?_)
      refine S_invi ml_L_40 mi_X5_show (ci := 5) ⟨_, rfl, rfl⟩ (by decide) dL_law_515 [.int x509, .int x514] rfl (fun v h2 q => c_X5_show Z l _ _ _ _ q) ⟨Nat.le_of_ble_eq_true rfl, Nat.le_of_ble_eq_true rfl⟩ (rest := []) (Nat.le_of_ble_eq_true rfl) rfl (pc' := 518) rfl (fun x515 h515 => ?_)
      refine S_aload_n dL_law_518 rfl 2 rfl (pc' := 519) rfl ?_
      refine S_aload_n dL_law_519 rfl 0 rfl (pc' := 520) rfl ?_
      refine S_iload_n dL_law_520 rfl 3 rfl (pc' := 521) rfl ?_
      refine S_iconst dL_law_521 (v := 1) rfl (pc' := 522) rfl ?_
      refine S_iadd dL_law_522 (pc' := 523) rfl ?_
      refine S_sld dL_law_523 (pc' := 524) rfl (fun x523 => ?_)
      refine S_aload_n dL_law_524 rfl 0 rfl (pc' := 525) rfl ?_
      refine S_iload_n dL_law_525 rfl 3 rfl (pc' := 526) rfl ?_
      refine S_iconst dL_law_526 (v := 2) rfl (pc' := 527) rfl ?_
      refine S_iadd dL_law_527 (pc' := 528) rfl ?_
      refine S_sld dL_law_528 (pc' := 529) rfl (fun x528 => ?_)
      refine S_invi ml_L_44 mi_X6_show (ci := 6) ⟨_, rfl, rfl⟩ (by decide) dL_law_529 [.int x523, .int x528] rfl (fun v h2 q => c_X6_show Z l _ _ _ _ q) ⟨Nat.le_of_ble_eq_true rfl, Nat.le_of_ble_eq_true rfl⟩ (rest := [.int x515]) (Nat.le_of_ble_eq_true rfl) rfl (pc' := 532) rfl (fun x529 h529 => ?_)
      refine S_icmp_eq dL_law_532 1974 rfl (pc' := 535) rfl (fun g532 => ?_) (fun g532 => ?_)
      · refine S_iinc dL_law_1974 (q := 3) rfl (v := b3 + 6) rfl (by decide) (lo' := [(3, .int (b3 + 6)), (0, .ref (zsc Z)), (1, .ref (zb Z + a1)), (2, .ref (zb Z + a2))]) rfl (pc' := 1977) rfl ?_
        refine S_goto dL_law_1977 18 rfl ?_
        refine Sim.sub [1, 2, 3, 0] rfl ?_
        exact hF _ _
      · refine S_iconst dL_law_535 (v := 0) rfl (pc' := 536) rfl ?_
        exact hret 536 [(0, .ref (zsc Z)), (1, .ref (zb Z + a1)), (2, .ref (zb Z + a2)), (3, .int b3)] 0 h529 dL_law_536
    refine Sim.ite (fun g33_6 => ?_) (fun g33_6 => ?_)
    · refine S_tabIn dL_law_33 g33_6 6 rfl (by decide) (off := 504) rfl 537 rfl ?_
      refine S_aload_n dL_law_537 rfl 1 rfl (pc' := 538) rfl ?_
      refine S_aload_n dL_law_538 rfl 0 rfl (pc' := 539) rfl ?_
      refine S_iload_n dL_law_539 rfl 3 rfl (pc' := 540) rfl ?_
      refine S_iconst dL_law_540 (v := 1) rfl (pc' := 541) rfl ?_
      refine S_iadd dL_law_541 (pc' := 542) rfl ?_
      refine S_sld dL_law_542 (pc' := 543) rfl (fun x542 => ?_)
      refine S_aload_n dL_law_543 rfl 0 rfl (pc' := 544) rfl ?_
      refine S_iload_n dL_law_544 rfl 3 rfl (pc' := 545) rfl ?_
      refine S_iconst dL_law_545 (v := 2) rfl (pc' := 546) rfl ?_
      refine S_iadd dL_law_546 (pc' := 547) rfl ?_
      refine S_sld dL_law_547 (pc' := 548) rfl (fun x547 => ?_)
      refine S_invi ml_L_45 mi_X5_says (ci := 5) ⟨_, rfl, rfl⟩ (by decide) dL_law_548 [.int x542, .int x547] rfl (fun v h2 q => c_X5_says Z l _ _ _ _ q) ⟨Nat.le_of_ble_eq_true rfl, Nat.le_of_ble_eq_true rfl⟩ (rest := []) (Nat.le_of_ble_eq_true rfl) rfl (pc' := 551) rfl (fun x548 h548 => ?_)
      refine S_aload_n dL_law_551 rfl 2 rfl (pc' := 552) rfl ?_
      refine S_aload_n dL_law_552 rfl 0 rfl (pc' := 553) rfl ?_
      refine S_iload_n dL_law_553 rfl 3 rfl (pc' := 554) rfl ?_
      refine S_iconst dL_law_554 (v := 1) rfl (pc' := 555) rfl ?_
      refine S_iadd dL_law_555 (pc' := 556) rfl ?_
      refine S_sld dL_law_556 (pc' := 557) rfl (fun x556 => ?_)
      refine S_aload_n dL_law_557 rfl 0 rfl (pc' := 558) rfl ?_
      refine S_iload_n dL_law_558 rfl 3 rfl (pc' := 559) rfl ?_
      refine S_iconst dL_law_559 (v := 2) rfl (pc' := 560) rfl ?_
      refine S_iadd dL_law_560 (pc' := 561) rfl ?_
      refine S_sld dL_law_561 (pc' := 562) rfl (fun x561 => ?_)
      refine S_invi ml_L_48 mi_X6_says (ci := 6) ⟨_, rfl, rfl⟩ (by decide) dL_law_562 [.int x556, .int x561] rfl (fun v h2 q => c_X6_says Z l _ _ _ _ q) ⟨Nat.le_of_ble_eq_true rfl, Nat.le_of_ble_eq_true rfl⟩ (rest := [.int x548]) (Nat.le_of_ble_eq_true rfl) rfl (pc' := 565) rfl (fun x562 h562 => ?_)
      refine S_icmp_eq dL_law_565 1974 rfl (pc' := 568) rfl (fun g565 => ?_) (fun g565 => ?_)
      · refine S_iinc dL_law_1974 (q := 3) rfl (v := b3 + 6) rfl (by decide) (lo' := [(3, .int (b3 + 6)), (0, .ref (zsc Z)), (1, .ref (zb Z + a1)), (2, .ref (zb Z + a2))]) rfl (pc' := 1977) rfl ?_
        refine S_goto dL_law_1977 18 rfl ?_
        refine Sim.sub [1, 2, 3, 0] rfl ?_
        exact hF _ _
      · refine S_iconst dL_law_568 (v := 0) rfl (pc' := 569) rfl ?_
        exact hret 569 [(0, .ref (zsc Z)), (1, .ref (zb Z + a1)), (2, .ref (zb Z + a2)), (3, .int b3)] 0 h562 dL_law_569
    refine Sim.ite (fun g33_7 => ?_) (fun g33_7 => ?_)
    · refine S_tabIn dL_law_33 g33_7 7 rfl (by decide) (off := 537) rfl 570 rfl ?_
      refine S_aload_n dL_law_570 rfl 1 rfl (pc' := 571) rfl ?_
      refine S_aload_n dL_law_571 rfl 0 rfl (pc' := 572) rfl ?_
      refine S_iload_n dL_law_572 rfl 3 rfl (pc' := 573) rfl ?_
      refine S_iconst dL_law_573 (v := 1) rfl (pc' := 574) rfl ?_
      refine S_iadd dL_law_574 (pc' := 575) rfl ?_
      refine S_sld dL_law_575 (pc' := 576) rfl (fun x575 => ?_)
      refine S_aload_n dL_law_576 rfl 0 rfl (pc' := 577) rfl ?_
      refine S_iload_n dL_law_577 rfl 3 rfl (pc' := 578) rfl ?_
      refine S_iconst dL_law_578 (v := 2) rfl (pc' := 579) rfl ?_
      refine S_iadd dL_law_579 (pc' := 580) rfl ?_
      refine S_sld dL_law_580 (pc' := 581) rfl (fun x580 => ?_)
      refine S_aload_n dL_law_581 rfl 0 rfl (pc' := 582) rfl ?_
      refine S_iload_n dL_law_582 rfl 3 rfl (pc' := 583) rfl ?_
      refine S_iconst dL_law_583 (v := 3) rfl (pc' := 584) rfl ?_
      refine S_iadd dL_law_584 (pc' := 585) rfl ?_
      refine S_sld dL_law_585 (pc' := 586) rfl (fun x585 => ?_)
      refine S_aload_n dL_law_586 rfl 0 rfl (pc' := 587) rfl ?_
      refine S_iload_n dL_law_587 rfl 3 rfl (pc' := 588) rfl ?_
      refine S_iconst dL_law_588 (v := 4) rfl (pc' := 589) rfl ?_
      refine S_iadd dL_law_589 (pc' := 590) rfl ?_
      refine S_sld dL_law_590 (pc' := 591) rfl (fun x590 => ?_)
      refine S_invi ml_L_49 mi_X5_person (ci := 5) ⟨_, rfl, rfl⟩ (by decide) dL_law_591 [.int x575, .int x580, .int x585, .int x590] rfl (fun v h2 q => c_X5_person Z l _ _ _ _ _ _ q) ⟨Nat.le_of_ble_eq_true rfl, Nat.le_of_ble_eq_true rfl⟩ (rest := []) (Nat.le_of_ble_eq_true rfl) rfl (pc' := 594) rfl (fun x591 h591 => ?_)
      refine S_aload_n dL_law_594 rfl 2 rfl (pc' := 595) rfl ?_
      refine S_aload_n dL_law_595 rfl 0 rfl (pc' := 596) rfl ?_
      refine S_iload_n dL_law_596 rfl 3 rfl (pc' := 597) rfl ?_
      refine S_iconst dL_law_597 (v := 1) rfl (pc' := 598) rfl ?_
      refine S_iadd dL_law_598 (pc' := 599) rfl ?_
      refine S_sld dL_law_599 (pc' := 600) rfl (fun x599 => ?_)
      refine S_aload_n dL_law_600 rfl 0 rfl (pc' := 601) rfl ?_
      refine S_iload_n dL_law_601 rfl 3 rfl (pc' := 602) rfl ?_
      refine S_iconst dL_law_602 (v := 2) rfl (pc' := 603) rfl ?_
      refine S_iadd dL_law_603 (pc' := 604) rfl ?_
      refine S_sld dL_law_604 (pc' := 605) rfl (fun x604 => ?_)
      refine S_aload_n dL_law_605 rfl 0 rfl (pc' := 606) rfl ?_
      refine S_iload_n dL_law_606 rfl 3 rfl (pc' := 607) rfl ?_
      refine S_iconst dL_law_607 (v := 3) rfl (pc' := 608) rfl ?_
      refine S_iadd dL_law_608 (pc' := 609) rfl ?_
      refine S_sld dL_law_609 (pc' := 610) rfl (fun x609 => ?_)
      refine S_aload_n dL_law_610 rfl 0 rfl (pc' := 611) rfl ?_
      refine S_iload_n dL_law_611 rfl 3 rfl (pc' := 612) rfl ?_
      refine S_iconst dL_law_612 (v := 4) rfl (pc' := 613) rfl ?_
      refine S_iadd dL_law_613 (pc' := 614) rfl ?_
      refine S_sld dL_law_614 (pc' := 615) rfl (fun x614 => ?_)
      refine S_invi ml_L_53 mi_X6_person (ci := 6) ⟨_, rfl, rfl⟩ (by decide) dL_law_615 [.int x599, .int x604, .int x609, .int x614] rfl (fun v h2 q => c_X6_person Z l _ _ _ _ _ _ q) ⟨Nat.le_of_ble_eq_true rfl, Nat.le_of_ble_eq_true rfl⟩ (rest := [.int x591]) (Nat.le_of_ble_eq_true rfl) rfl (pc' := 618) rfl (fun x615 h615 => ?_)
      refine S_icmp_eq dL_law_618 1974 rfl (pc' := 621) rfl (fun g618 => ?_) (fun g618 => ?_)
      · refine S_iinc dL_law_1974 (q := 3) rfl (v := b3 + 6) rfl (by decide) (lo' := [(3, .int (b3 + 6)), (0, .ref (zsc Z)), (1, .ref (zb Z + a1)), (2, .ref (zb Z + a2))]) rfl (pc' := 1977) rfl ?_
        refine S_goto dL_law_1977 18 rfl ?_
        refine Sim.sub [1, 2, 3, 0] rfl ?_
        exact hF _ _
      · refine S_iconst dL_law_621 (v := 0) rfl (pc' := 622) rfl ?_
        exact hret 622 [(0, .ref (zsc Z)), (1, .ref (zb Z + a1)), (2, .ref (zb Z + a2)), (3, .int b3)] 0 h615 dL_law_622
    refine Sim.ite (fun g33_8 => ?_) (fun g33_8 => ?_)
    · refine S_tabIn dL_law_33 g33_8 8 rfl (by decide) (off := 590) rfl 623 rfl ?_
      refine S_aload_n dL_law_623 rfl 1 rfl (pc' := 624) rfl ?_
      refine S_aload_n dL_law_624 rfl 0 rfl (pc' := 625) rfl ?_
      refine S_iload_n dL_law_625 rfl 3 rfl (pc' := 626) rfl ?_
      refine S_iconst dL_law_626 (v := 1) rfl (pc' := 627) rfl ?_
      refine S_iadd dL_law_627 (pc' := 628) rfl ?_
      refine S_sld dL_law_628 (pc' := 629) rfl (fun x628 => ?_)
      refine S_aload_n dL_law_629 rfl 0 rfl (pc' := 630) rfl ?_
      refine S_iload_n dL_law_630 rfl 3 rfl (pc' := 631) rfl ?_
      refine S_iconst dL_law_631 (v := 2) rfl (pc' := 632) rfl ?_
      refine S_iadd dL_law_632 (pc' := 633) rfl ?_
      refine S_sld dL_law_633 (pc' := 634) rfl (fun x633 => ?_)
      refine S_invi ml_L_54 mi_X5_song (ci := 5) ⟨_, rfl, rfl⟩ (by decide) dL_law_634 [.int x628, .int x633] rfl (fun v h2 q => c_X5_song Z l _ _ _ _ q) ⟨Nat.le_of_ble_eq_true rfl, Nat.le_of_ble_eq_true rfl⟩ (rest := []) (Nat.le_of_ble_eq_true rfl) rfl (pc' := 637) rfl (fun x634 h634 => ?_)
      refine S_aload_n dL_law_637 rfl 2 rfl (pc' := 638) rfl ?_
      refine S_aload_n dL_law_638 rfl 0 rfl (pc' := 639) rfl ?_
      refine S_iload_n dL_law_639 rfl 3 rfl (pc' := 640) rfl ?_
      refine S_iconst dL_law_640 (v := 1) rfl (pc' := 641) rfl ?_
      refine S_iadd dL_law_641 (pc' := 642) rfl ?_
      refine S_sld dL_law_642 (pc' := 643) rfl (fun x642 => ?_)
      refine S_aload_n dL_law_643 rfl 0 rfl (pc' := 644) rfl ?_
      refine S_iload_n dL_law_644 rfl 3 rfl (pc' := 645) rfl ?_
      refine S_iconst dL_law_645 (v := 2) rfl (pc' := 646) rfl ?_
      refine S_iadd dL_law_646 (pc' := 647) rfl ?_
      refine S_sld dL_law_647 (pc' := 648) rfl (fun x647 => ?_)
      refine S_invi ml_L_57 mi_X6_song (ci := 6) ⟨_, rfl, rfl⟩ (by decide) dL_law_648 [.int x642, .int x647] rfl (fun v h2 q => c_X6_song Z l _ _ _ _ q) ⟨Nat.le_of_ble_eq_true rfl, Nat.le_of_ble_eq_true rfl⟩ (rest := [.int x634]) (Nat.le_of_ble_eq_true rfl) rfl (pc' := 651) rfl (fun x648 h648 => ?_)
      refine S_icmp_eq dL_law_651 1974 rfl (pc' := 654) rfl (fun g651 => ?_) (fun g651 => ?_)
      · refine S_iinc dL_law_1974 (q := 3) rfl (v := b3 + 6) rfl (by decide) (lo' := [(3, .int (b3 + 6)), (0, .ref (zsc Z)), (1, .ref (zb Z + a1)), (2, .ref (zb Z + a2))]) rfl (pc' := 1977) rfl ?_
        refine S_goto dL_law_1977 18 rfl ?_
        refine Sim.sub [1, 2, 3, 0] rfl ?_
        exact hF _ _
      · refine S_iconst dL_law_654 (v := 0) rfl (pc' := 655) rfl ?_
        exact hret 655 [(0, .ref (zsc Z)), (1, .ref (zb Z + a1)), (2, .ref (zb Z + a2)), (3, .int b3)] 0 h648 dL_law_655
    refine Sim.ite (fun g33_9 => ?_) (fun g33_9 => ?_)
    · refine S_tabIn dL_law_33 g33_9 9 rfl (by decide) (off := 623) rfl 656 rfl ?_
      refine S_aload_n dL_law_656 rfl 1 rfl (pc' := 657) rfl ?_
      refine S_aload_n dL_law_657 rfl 0 rfl (pc' := 658) rfl ?_
      refine S_iload_n dL_law_658 rfl 3 rfl (pc' := 659) rfl ?_
      refine S_iconst dL_law_659 (v := 1) rfl (pc' := 660) rfl ?_
      refine S_iadd dL_law_660 (pc' := 661) rfl ?_
      refine S_sld dL_law_661 (pc' := 662) rfl (fun x661 => ?_)
      refine S_aload_n dL_law_662 rfl 0 rfl (pc' := 663) rfl ?_
      refine S_iload_n dL_law_663 rfl 3 rfl (pc' := 664) rfl ?_
      refine S_iconst dL_law_664 (v := 2) rfl (pc' := 665) rfl ?_
      refine S_iadd dL_law_665 (pc' := 666) rfl ?_
      refine S_sld dL_law_666 (pc' := 667) rfl (fun x666 => ?_)
      refine S_aload_n dL_law_667 rfl 0 rfl (pc' := 668) rfl ?_
      refine S_iload_n dL_law_668 rfl 3 rfl (pc' := 669) rfl ?_
      refine S_iconst dL_law_669 (v := 3) rfl (pc' := 670) rfl ?_
      refine S_iadd dL_law_670 (pc' := 671) rfl ?_
      refine S_sld dL_law_671 (pc' := 672) rfl (fun x671 => ?_)
      refine S_invi ml_L_58 mi_X5_give (ci := 5) ⟨_, rfl, rfl⟩ (by decide) dL_law_672 [.int x661, .int x666, .int x671] rfl (fun v h2 q => c_X5_give Z l _ _ _ _ _ q) ⟨Nat.le_of_ble_eq_true rfl, Nat.le_of_ble_eq_true rfl⟩ (rest := []) (Nat.le_of_ble_eq_true rfl) rfl (pc' := 675) rfl (fun x672 h672 => ?_)
      refine S_aload_n dL_law_675 rfl 2 rfl (pc' := 676) rfl ?_
      refine S_aload_n dL_law_676 rfl 0 rfl (pc' := 677) rfl ?_
      refine S_iload_n dL_law_677 rfl 3 rfl (pc' := 678) rfl ?_
      refine S_iconst dL_law_678 (v := 1) rfl (pc' := 679) rfl ?_
      refine S_iadd dL_law_679 (pc' := 680) rfl ?_
      refine S_sld dL_law_680 (pc' := 681) rfl (fun x680 => ?_)
      refine S_aload_n dL_law_681 rfl 0 rfl (pc' := 682) rfl ?_
      refine S_iload_n dL_law_682 rfl 3 rfl (pc' := 683) rfl ?_
      refine S_iconst dL_law_683 (v := 2) rfl (pc' := 684) rfl ?_
      refine S_iadd dL_law_684 (pc' := 685) rfl ?_
      refine S_sld dL_law_685 (pc' := 686) rfl (fun x685 => ?_)
      refine S_aload_n dL_law_686 rfl 0 rfl (pc' := 687) rfl ?_
      refine S_iload_n dL_law_687 rfl 3 rfl (pc' := 688) rfl ?_
      refine S_iconst dL_law_688 (v := 3) rfl (pc' := 689) rfl ?_
      refine S_iadd dL_law_689 (pc' := 690) rfl ?_
      refine S_sld dL_law_690 (pc' := 691) rfl (fun x690 => ?_)
      refine S_invi ml_L_61 mi_X6_give (ci := 6) ⟨_, rfl, rfl⟩ (by decide) dL_law_691 [.int x680, .int x685, .int x690] rfl (fun v h2 q => c_X6_give Z l _ _ _ _ _ q) ⟨Nat.le_of_ble_eq_true rfl, Nat.le_of_ble_eq_true rfl⟩ (rest := [.int x672]) (Nat.le_of_ble_eq_true rfl) rfl (pc' := 694) rfl (fun x691 h691 => ?_)
      refine S_icmp_eq dL_law_694 1974 rfl (pc' := 697) rfl (fun g694 => ?_) (fun g694 => ?_)
      · refine S_iinc dL_law_1974 (q := 3) rfl (v := b3 + 6) rfl (by decide) (lo' := [(3, .int (b3 + 6)), (0, .ref (zsc Z)), (1, .ref (zb Z + a1)), (2, .ref (zb Z + a2))]) rfl (pc' := 1977) rfl ?_
        refine S_goto dL_law_1977 18 rfl ?_
        refine Sim.sub [1, 2, 3, 0] rfl ?_
        exact hF _ _
      · refine S_iconst dL_law_697 (v := 0) rfl (pc' := 698) rfl ?_
        exact hret 698 [(0, .ref (zsc Z)), (1, .ref (zb Z + a1)), (2, .ref (zb Z + a2)), (3, .int b3)] 0 h691 dL_law_698
    refine Sim.ite (fun g33_10 => ?_) (fun g33_10 => ?_)
    · refine S_tabIn dL_law_33 g33_10 10 rfl (by decide) (off := 666) rfl 699 rfl ?_
      refine S_aload_n dL_law_699 rfl 1 rfl (pc' := 700) rfl ?_
      refine S_aload_n dL_law_700 rfl 0 rfl (pc' := 701) rfl ?_
      refine S_iload_n dL_law_701 rfl 3 rfl (pc' := 702) rfl ?_
      refine S_iconst dL_law_702 (v := 1) rfl (pc' := 703) rfl ?_
      refine S_iadd dL_law_703 (pc' := 704) rfl ?_
      refine S_sld dL_law_704 (pc' := 705) rfl (fun x704 => ?_)
      refine S_aload_n dL_law_705 rfl 0 rfl (pc' := 706) rfl ?_
      refine S_iload_n dL_law_706 rfl 3 rfl (pc' := 707) rfl ?_
      refine S_iconst dL_law_707 (v := 2) rfl (pc' := 708) rfl ?_
      refine S_iadd dL_law_708 (pc' := 709) rfl ?_
      refine S_sld dL_law_709 (pc' := 710) rfl (fun x709 => ?_)
      refine S_aload_n dL_law_710 rfl 0 rfl (pc' := 711) rfl ?_
      refine S_iload_n dL_law_711 rfl 3 rfl (pc' := 712) rfl ?_
      refine S_iconst dL_law_712 (v := 3) rfl (pc' := 713) rfl ?_
      refine S_iadd dL_law_713 (pc' := 714) rfl ?_
      refine S_sld dL_law_714 (pc' := 715) rfl (fun x714 => ?_)
      refine S_invi ml_L_62 mi_X5_mark (ci := 5) ⟨_, rfl, rfl⟩ (by decide) dL_law_715 [.int x704, .int x709, .int x714] rfl (fun v h2 q => c_X5_mark Z l _ _ _ _ _ q) ⟨Nat.le_of_ble_eq_true rfl, Nat.le_of_ble_eq_true rfl⟩ (rest := []) (Nat.le_of_ble_eq_true rfl) rfl (pc' := 718) rfl (fun x715 h715 => ?_)
      refine S_aload_n dL_law_718 rfl 2 rfl (pc' := 719) rfl ?_
      refine S_aload_n dL_law_719 rfl 0 rfl (pc' := 720) rfl ?_
      refine S_iload_n dL_law_720 rfl 3 rfl (pc' := 721) rfl ?_
      refine S_iconst dL_law_721 (v := 1) rfl (pc' := 722) rfl ?_
      refine S_iadd dL_law_722 (pc' := 723) rfl ?_
      refine S_sld dL_law_723 (pc' := 724) rfl (fun x723 => ?_)
      refine S_aload_n dL_law_724 rfl 0 rfl (pc' := 725) rfl ?_
      refine S_iload_n dL_law_725 rfl 3 rfl (pc' := 726) rfl ?_
      refine S_iconst dL_law_726 (v := 2) rfl (pc' := 727) rfl ?_
      refine S_iadd dL_law_727 (pc' := 728) rfl ?_
      refine S_sld dL_law_728 (pc' := 729) rfl (fun x728 => ?_)
      refine S_aload_n dL_law_729 rfl 0 rfl (pc' := 730) rfl ?_
      refine S_iload_n dL_law_730 rfl 3 rfl (pc' := 731) rfl ?_
      refine S_iconst dL_law_731 (v := 3) rfl (pc' := 732) rfl ?_
      refine S_iadd dL_law_732 (pc' := 733) rfl ?_
      refine S_sld dL_law_733 (pc' := 734) rfl (fun x733 => ?_)
      refine S_invi ml_L_65 mi_X6_mark (ci := 6) ⟨_, rfl, rfl⟩ (by decide) dL_law_734 [.int x723, .int x728, .int x733] rfl (fun v h2 q => c_X6_mark Z l _ _ _ _ _ q) ⟨Nat.le_of_ble_eq_true rfl, Nat.le_of_ble_eq_true rfl⟩ (rest := [.int x715]) (Nat.le_of_ble_eq_true rfl) rfl (pc' := 737) rfl (fun x734 h734 => ?_)
      refine S_icmp_eq dL_law_737 1974 rfl (pc' := 740) rfl (fun g737 => ?_) (fun g737 => ?_)
      · refine S_iinc dL_law_1974 (q := 3) rfl (v := b3 + 6) rfl (by decide) (lo' := [(3, .int (b3 + 6)), (0, .ref (zsc Z)), (1, .ref (zb Z + a1)), (2, .ref (zb Z + a2))]) rfl (pc' := 1977) rfl ?_
        refine S_goto dL_law_1977 18 rfl ?_
        refine Sim.sub [1, 2, 3, 0] rfl ?_
        exact hF _ _
      · refine S_iconst dL_law_740 (v := 0) rfl (pc' := 741) rfl ?_
        exact hret 741 [(0, .ref (zsc Z)), (1, .ref (zb Z + a1)), (2, .ref (zb Z + a2)), (3, .int b3)] 0 h734 dL_law_741
    refine Sim.ite (fun g33_11 => ?_) (fun g33_11 => ?_)
    · refine S_tabIn dL_law_33 g33_11 11 rfl (by decide) (off := 709) rfl 742 rfl ?_
      refine S_aload_n dL_law_742 rfl 1 rfl (pc' := 743) rfl ?_
      refine S_aload_n dL_law_743 rfl 0 rfl (pc' := 744) rfl ?_
      refine S_iload_n dL_law_744 rfl 3 rfl (pc' := 745) rfl ?_
      refine S_iconst dL_law_745 (v := 1) rfl (pc' := 746) rfl ?_
      refine S_iadd dL_law_746 (pc' := 747) rfl ?_
      refine S_sld dL_law_747 (pc' := 748) rfl (fun x747 => ?_)
      refine S_aload_n dL_law_748 rfl 0 rfl (pc' := 749) rfl ?_
      refine S_iload_n dL_law_749 rfl 3 rfl (pc' := 750) rfl ?_
      refine S_iconst dL_law_750 (v := 2) rfl (pc' := 751) rfl ?_
      refine S_iadd dL_law_751 (pc' := 752) rfl ?_
      refine S_sld dL_law_752 (pc' := 753) rfl (fun x752 => ?_)
      refine S_aload_n dL_law_753 rfl 0 rfl (pc' := 754) rfl ?_
      refine S_iload_n dL_law_754 rfl 3 rfl (pc' := 755) rfl ?_
      refine S_iconst dL_law_755 (v := 3) rfl (pc' := 756) rfl ?_
      refine S_iadd dL_law_756 (pc' := 757) rfl ?_
      refine S_sld dL_law_757 (pc' := 758) rfl (fun x757 => ?_)
      refine S_invi ml_L_66 mi_X5_note (ci := 5) ⟨_, rfl, rfl⟩ (by decide) dL_law_758 [.int x747, .int x752, .int x757] rfl (fun v h2 q => c_X5_note Z l _ _ _ _ _ q) ⟨Nat.le_of_ble_eq_true rfl, Nat.le_of_ble_eq_true rfl⟩ (rest := []) (Nat.le_of_ble_eq_true rfl) rfl (pc' := 761) rfl (fun x758 h758 => ?_)
      refine S_aload_n dL_law_761 rfl 2 rfl (pc' := 762) rfl ?_
      refine S_aload_n dL_law_762 rfl 0 rfl (pc' := 763) rfl ?_
      refine S_iload_n dL_law_763 rfl 3 rfl (pc' := 764) rfl ?_
      refine S_iconst dL_law_764 (v := 1) rfl (pc' := 765) rfl ?_
      refine S_iadd dL_law_765 (pc' := 766) rfl ?_
      refine S_sld dL_law_766 (pc' := 767) rfl (fun x766 => ?_)
      refine S_aload_n dL_law_767 rfl 0 rfl (pc' := 768) rfl ?_
      refine S_iload_n dL_law_768 rfl 3 rfl (pc' := 769) rfl ?_
      refine S_iconst dL_law_769 (v := 2) rfl (pc' := 770) rfl ?_
      refine S_iadd dL_law_770 (pc' := 771) rfl ?_
      refine S_sld dL_law_771 (pc' := 772) rfl (fun x771 => ?_)
      refine S_aload_n dL_law_772 rfl 0 rfl (pc' := 773) rfl ?_
      refine S_iload_n dL_law_773 rfl 3 rfl (pc' := 774) rfl ?_
      refine S_iconst dL_law_774 (v := 3) rfl (pc' := 775) rfl ?_
      refine S_iadd dL_law_775 (pc' := 776) rfl ?_
      refine S_sld dL_law_776 (pc' := 777) rfl (fun x776 => ?_)
      refine S_invi ml_L_69 mi_X6_note (ci := 6) ⟨_, rfl, rfl⟩ (by decide) dL_law_777 [.int x766, .int x771, .int x776] rfl (fun v h2 q => c_X6_note Z l _ _ _ _ _ q) ⟨Nat.le_of_ble_eq_true rfl, Nat.le_of_ble_eq_true rfl⟩ (rest := [.int x758]) (Nat.le_of_ble_eq_true rfl) rfl (pc' := 780) rfl (fun x777 h777 => ?_)
      refine S_icmp_eq dL_law_780 1974 rfl (pc' := 783) rfl (fun g780 => ?_) (fun g780 => ?_)
      · refine S_iinc dL_law_1974 (q := 3) rfl (v := b3 + 6) rfl (by decide) (lo' := [(3, .int (b3 + 6)), (0, .ref (zsc Z)), (1, .ref (zb Z + a1)), (2, .ref (zb Z + a2))]) rfl (pc' := 1977) rfl ?_
        refine S_goto dL_law_1977 18 rfl ?_
        refine Sim.sub [1, 2, 3, 0] rfl ?_
        exact hF _ _
      · refine S_iconst dL_law_783 (v := 0) rfl (pc' := 784) rfl ?_
        exact hret 784 [(0, .ref (zsc Z)), (1, .ref (zb Z + a1)), (2, .ref (zb Z + a2)), (3, .int b3)] 0 h777 dL_law_784
    refine Sim.ite (fun g33_12 => ?_) (fun g33_12 => ?_)
    · refine S_tabIn dL_law_33 g33_12 12 rfl (by decide) (off := 752) rfl 785 rfl ?_
      refine S_aload_n dL_law_785 rfl 1 rfl (pc' := 786) rfl ?_
      refine S_aload_n dL_law_786 rfl 0 rfl (pc' := 787) rfl ?_
      refine S_iload_n dL_law_787 rfl 3 rfl (pc' := 788) rfl ?_
      refine S_iconst dL_law_788 (v := 1) rfl (pc' := 789) rfl ?_
      refine S_iadd dL_law_789 (pc' := 790) rfl ?_
      refine S_sld dL_law_790 (pc' := 791) rfl (fun x790 => ?_)
      refine S_aload_n dL_law_791 rfl 0 rfl (pc' := 792) rfl ?_
      refine S_iload_n dL_law_792 rfl 3 rfl (pc' := 793) rfl ?_
      refine S_iconst dL_law_793 (v := 2) rfl (pc' := 794) rfl ?_
      refine S_iadd dL_law_794 (pc' := 795) rfl ?_
      refine S_sld dL_law_795 (pc' := 796) rfl (fun x795 => ?_)
      refine S_aload_n dL_law_796 rfl 0 rfl (pc' := 797) rfl ?_
      refine S_iload_n dL_law_797 rfl 3 rfl (pc' := 798) rfl ?_
      refine S_iconst dL_law_798 (v := 3) rfl (pc' := 799) rfl ?_
      refine S_iadd dL_law_799 (pc' := 800) rfl ?_
      refine S_sld dL_law_800 (pc' := 801) rfl (fun x800 => ?_)
      refine S_invi ml_L_70 mi_X5_knows (ci := 5) ⟨_, rfl, rfl⟩ (by decide) dL_law_801 [.int x790, .int x795, .int x800] rfl (fun v h2 q => c_X5_knows Z l _ _ _ _ _ q) ⟨Nat.le_of_ble_eq_true rfl, Nat.le_of_ble_eq_true rfl⟩ (rest := []) (Nat.le_of_ble_eq_true rfl) rfl (pc' := 804) rfl (fun x801 h801 => ?_)
      refine S_aload_n dL_law_804 rfl 2 rfl (pc' := 805) rfl ?_
      refine S_aload_n dL_law_805 rfl 0 rfl (pc' := 806) rfl ?_
      refine S_iload_n dL_law_806 rfl 3 rfl (pc' := 807) rfl ?_
      refine S_iconst dL_law_807 (v := 1) rfl (pc' := 808) rfl ?_
      refine S_iadd dL_law_808 (pc' := 809) rfl ?_
      refine S_sld dL_law_809 (pc' := 810) rfl (fun x809 => ?_)
      refine S_aload_n dL_law_810 rfl 0 rfl (pc' := 811) rfl ?_
      refine S_iload_n dL_law_811 rfl 3 rfl (pc' := 812) rfl ?_
      refine S_iconst dL_law_812 (v := 2) rfl (pc' := 813) rfl ?_
      refine S_iadd dL_law_813 (pc' := 814) rfl ?_
      refine S_sld dL_law_814 (pc' := 815) rfl (fun x814 => ?_)
      refine S_aload_n dL_law_815 rfl 0 rfl (pc' := 816) rfl ?_
      refine S_iload_n dL_law_816 rfl 3 rfl (pc' := 817) rfl ?_
      refine S_iconst dL_law_817 (v := 3) rfl (pc' := 818) rfl ?_
      refine S_iadd dL_law_818 (pc' := 819) rfl ?_
      refine S_sld dL_law_819 (pc' := 820) rfl (fun x819 => ?_)
      refine S_invi ml_L_73 mi_X6_knows (ci := 6) ⟨_, rfl, rfl⟩ (by decide) dL_law_820 [.int x809, .int x814, .int x819] rfl (fun v h2 q => c_X6_knows Z l _ _ _ _ _ q) ⟨Nat.le_of_ble_eq_true rfl, Nat.le_of_ble_eq_true rfl⟩ (rest := [.int x801]) (Nat.le_of_ble_eq_true rfl) rfl (pc' := 823) rfl (fun x820 h820 => ?_)
      refine S_icmp_eq dL_law_823 1974 rfl (pc' := 826) rfl (fun g823 => ?_) (fun g823 => ?_)
      · refine S_iinc dL_law_1974 (q := 3) rfl (v := b3 + 6) rfl (by decide) (lo' := [(3, .int (b3 + 6)), (0, .ref (zsc Z)), (1, .ref (zb Z + a1)), (2, .ref (zb Z + a2))]) rfl (pc' := 1977) rfl ?_
        refine S_goto dL_law_1977 18 rfl ?_
        refine Sim.sub [1, 2, 3, 0] rfl ?_
        exact hF _ _
      · refine S_iconst dL_law_826 (v := 0) rfl (pc' := 827) rfl ?_
        exact hret 827 [(0, .ref (zsc Z)), (1, .ref (zb Z + a1)), (2, .ref (zb Z + a2)), (3, .int b3)] 0 h820 dL_law_827
    refine Sim.ite (fun g33_13 => ?_) (fun g33_13 => ?_)
    · refine S_tabIn dL_law_33 g33_13 13 rfl (by decide) (off := 795) rfl 828 rfl ?_
      refine S_aload_n dL_law_828 rfl 1 rfl (pc' := 829) rfl ?_
      refine S_aload_n dL_law_829 rfl 0 rfl (pc' := 830) rfl ?_
      refine S_iload_n dL_law_830 rfl 3 rfl (pc' := 831) rfl ?_
      refine S_iconst dL_law_831 (v := 1) rfl (pc' := 832) rfl ?_
      refine S_iadd dL_law_832 (pc' := 833) rfl ?_
      refine S_sld dL_law_833 (pc' := 834) rfl (fun x833 => ?_)
      refine S_aload_n dL_law_834 rfl 0 rfl (pc' := 835) rfl ?_
      refine S_iload_n dL_law_835 rfl 3 rfl (pc' := 836) rfl ?_
      refine S_iconst dL_law_836 (v := 2) rfl (pc' := 837) rfl ?_
      refine S_iadd dL_law_837 (pc' := 838) rfl ?_
      refine S_sld dL_law_838 (pc' := 839) rfl (fun x838 => ?_)
      refine S_aload_n dL_law_839 rfl 0 rfl (pc' := 840) rfl ?_
      refine S_iload_n dL_law_840 rfl 3 rfl (pc' := 841) rfl ?_
      refine S_iconst dL_law_841 (v := 3) rfl (pc' := 842) rfl ?_
      refine S_iadd dL_law_842 (pc' := 843) rfl ?_
      refine S_sld dL_law_843 (pc' := 844) rfl (fun x843 => ?_)
      refine S_invi ml_L_74 mi_X5_seat (ci := 5) ⟨_, rfl, rfl⟩ (by decide) dL_law_844 [.int x833, .int x838, .int x843] rfl (fun v h2 q => c_X5_seat Z l _ _ _ _ _ q) ⟨Nat.le_of_ble_eq_true rfl, Nat.le_of_ble_eq_true rfl⟩ (rest := []) (Nat.le_of_ble_eq_true rfl) rfl (pc' := 847) rfl (fun x844 h844 => ?_)
      refine S_aload_n dL_law_847 rfl 2 rfl (pc' := 848) rfl ?_
      refine S_aload_n dL_law_848 rfl 0 rfl (pc' := 849) rfl ?_
      refine S_iload_n dL_law_849 rfl 3 rfl (pc' := 850) rfl ?_
      refine S_iconst dL_law_850 (v := 1) rfl (pc' := 851) rfl ?_
      refine S_iadd dL_law_851 (pc' := 852) rfl ?_
      refine S_sld dL_law_852 (pc' := 853) rfl (fun x852 => ?_)
      refine S_aload_n dL_law_853 rfl 0 rfl (pc' := 854) rfl ?_
      refine S_iload_n dL_law_854 rfl 3 rfl (pc' := 855) rfl ?_
      refine S_iconst dL_law_855 (v := 2) rfl (pc' := 856) rfl ?_
      refine S_iadd dL_law_856 (pc' := 857) rfl ?_
      refine S_sld dL_law_857 (pc' := 858) rfl (fun x857 => ?_)
      refine S_aload_n dL_law_858 rfl 0 rfl (pc' := 859) rfl ?_
      refine S_iload_n dL_law_859 rfl 3 rfl (pc' := 860) rfl ?_
      refine S_iconst dL_law_860 (v := 3) rfl (pc' := 861) rfl ?_
      refine S_iadd dL_law_861 (pc' := 862) rfl ?_
      refine S_sld dL_law_862 (pc' := 863) rfl (fun x862 => ?_)
      refine S_invi ml_L_77 mi_X6_seat (ci := 6) ⟨_, rfl, rfl⟩ (by decide) dL_law_863 [.int x852, .int x857, .int x862] rfl (fun v h2 q => c_X6_seat Z l _ _ _ _ _ q) ⟨Nat.le_of_ble_eq_true rfl, Nat.le_of_ble_eq_true rfl⟩ (rest := [.int x844]) (Nat.le_of_ble_eq_true rfl) rfl (pc' := 866) rfl (fun x863 h863 => ?_)
      refine S_icmp_eq dL_law_866 1974 rfl (pc' := 869) rfl (fun g866 => ?_) (fun g866 => ?_)
      · refine S_iinc dL_law_1974 (q := 3) rfl (v := b3 + 6) rfl (by decide) (lo' := [(3, .int (b3 + 6)), (0, .ref (zsc Z)), (1, .ref (zb Z + a1)), (2, .ref (zb Z + a2))]) rfl (pc' := 1977) rfl ?_
        refine S_goto dL_law_1977 18 rfl ?_
        refine Sim.sub [1, 2, 3, 0] rfl ?_
        exact hF _ _
      · refine S_iconst dL_law_869 (v := 0) rfl (pc' := 870) rfl ?_
        exact hret 870 [(0, .ref (zsc Z)), (1, .ref (zb Z + a1)), (2, .ref (zb Z + a2)), (3, .int b3)] 0 h863 dL_law_870
    refine Sim.ite (fun g33_14 => ?_) (fun g33_14 => ?_)
    · refine S_tabIn dL_law_33 g33_14 14 rfl (by decide) (off := 838) rfl 871 rfl ?_
      refine S_aload_n dL_law_871 rfl 1 rfl (pc' := 872) rfl ?_
      refine S_aload_n dL_law_872 rfl 0 rfl (pc' := 873) rfl ?_
      refine S_iload_n dL_law_873 rfl 3 rfl (pc' := 874) rfl ?_
      refine S_iconst dL_law_874 (v := 1) rfl (pc' := 875) rfl ?_
      refine S_iadd dL_law_875 (pc' := 876) rfl ?_
      refine S_sld dL_law_876 (pc' := 877) rfl (fun x876 => ?_)
      refine S_aload_n dL_law_877 rfl 0 rfl (pc' := 878) rfl ?_
      refine S_iload_n dL_law_878 rfl 3 rfl (pc' := 879) rfl ?_
      refine S_iconst dL_law_879 (v := 2) rfl (pc' := 880) rfl ?_
      refine S_iadd dL_law_880 (pc' := 881) rfl ?_
      refine S_sld dL_law_881 (pc' := 882) rfl (fun x881 => ?_)
      refine S_invi ml_L_78 mi_X5_tell (ci := 5) ⟨_, rfl, rfl⟩ (by decide) dL_law_882 [.int x876, .int x881] rfl (fun v h2 q => c_X5_tell Z l _ _ _ _ q) ⟨Nat.le_of_ble_eq_true rfl, Nat.le_of_ble_eq_true rfl⟩ (rest := []) (Nat.le_of_ble_eq_true rfl) rfl (pc' := 885) rfl (fun x882 h882 => ?_)
      refine S_aload_n dL_law_885 rfl 2 rfl (pc' := 886) rfl ?_
      refine S_aload_n dL_law_886 rfl 0 rfl (pc' := 887) rfl ?_
      refine S_iload_n dL_law_887 rfl 3 rfl (pc' := 888) rfl ?_
      refine S_iconst dL_law_888 (v := 1) rfl (pc' := 889) rfl ?_
      refine S_iadd dL_law_889 (pc' := 890) rfl ?_
      refine S_sld dL_law_890 (pc' := 891) rfl (fun x890 => ?_)
      refine S_aload_n dL_law_891 rfl 0 rfl (pc' := 892) rfl ?_
      refine S_iload_n dL_law_892 rfl 3 rfl (pc' := 893) rfl ?_
      refine S_iconst dL_law_893 (v := 2) rfl (pc' := 894) rfl ?_
      refine S_iadd dL_law_894 (pc' := 895) rfl ?_
      refine S_sld dL_law_895 (pc' := 896) rfl (fun x895 => ?_)
      refine S_invi ml_L_81 mi_X6_tell (ci := 6) ⟨_, rfl, rfl⟩ (by decide) dL_law_896 [.int x890, .int x895] rfl (fun v h2 q => c_X6_tell Z l _ _ _ _ q) ⟨Nat.le_of_ble_eq_true rfl, Nat.le_of_ble_eq_true rfl⟩ (rest := [.int x882]) (Nat.le_of_ble_eq_true rfl) rfl (pc' := 899) rfl (fun x896 h896 => ?_)
      refine S_icmp_eq dL_law_899 1974 rfl (pc' := 902) rfl (fun g899 => ?_) (fun g899 => ?_)
      · refine S_iinc dL_law_1974 (q := 3) rfl (v := b3 + 6) rfl (by decide) (lo' := [(3, .int (b3 + 6)), (0, .ref (zsc Z)), (1, .ref (zb Z + a1)), (2, .ref (zb Z + a2))]) rfl (pc' := 1977) rfl ?_
        refine S_goto dL_law_1977 18 rfl ?_
        refine Sim.sub [1, 2, 3, 0] rfl ?_
        exact hF _ _
      · refine S_iconst dL_law_902 (v := 0) rfl (pc' := 903) rfl ?_
        exact hret 903 [(0, .ref (zsc Z)), (1, .ref (zb Z + a1)), (2, .ref (zb Z + a2)), (3, .int b3)] 0 h896 dL_law_903
    refine Sim.ite (fun g33_15 => ?_) (fun g33_15 => ?_)
    · refine S_tabIn dL_law_33 g33_15 15 rfl (by decide) (off := 871) rfl 904 rfl ?_
      refine S_aload_n dL_law_904 rfl 1 rfl (pc' := 905) rfl ?_
      refine S_aload_n dL_law_905 rfl 0 rfl (pc' := 906) rfl ?_
      refine S_iload_n dL_law_906 rfl 3 rfl (pc' := 907) rfl ?_
      refine S_iconst dL_law_907 (v := 1) rfl (pc' := 908) rfl ?_
      refine S_iadd dL_law_908 (pc' := 909) rfl ?_
      refine S_sld dL_law_909 (pc' := 910) rfl (fun x909 => ?_)
      refine S_invi ml_L_82 mi_X5_feed (ci := 5) ⟨_, rfl, rfl⟩ (by decide) dL_law_910 [.int x909] rfl (fun v h2 q => c_X5_feed Z l _ _ _ q) ⟨Nat.le_of_ble_eq_true rfl, Nat.le_of_ble_eq_true rfl⟩ (rest := []) (Nat.le_of_ble_eq_true rfl) rfl (pc' := 913) rfl (fun x910 h910 => ?_)
      refine S_aload_n dL_law_913 rfl 2 rfl (pc' := 914) rfl ?_
      refine S_aload_n dL_law_914 rfl 0 rfl (pc' := 915) rfl ?_
      refine S_iload_n dL_law_915 rfl 3 rfl (pc' := 916) rfl ?_
      refine S_iconst dL_law_916 (v := 1) rfl (pc' := 917) rfl ?_
      refine S_iadd dL_law_917 (pc' := 918) rfl ?_
      refine S_sld dL_law_918 (pc' := 919) rfl (fun x918 => ?_)
      refine S_invi ml_L_85 mi_X6_feed (ci := 6) ⟨_, rfl, rfl⟩ (by decide) dL_law_919 [.int x918] rfl (fun v h2 q => c_X6_feed Z l _ _ _ q) ⟨Nat.le_of_ble_eq_true rfl, Nat.le_of_ble_eq_true rfl⟩ (rest := [.int x910]) (Nat.le_of_ble_eq_true rfl) rfl (pc' := 922) rfl (fun x919 h919 => ?_)
      refine S_icmp_eq dL_law_922 1974 rfl (pc' := 925) rfl (fun g922 => ?_) (fun g922 => ?_)
      · refine S_iinc dL_law_1974 (q := 3) rfl (v := b3 + 6) rfl (by decide) (lo' := [(3, .int (b3 + 6)), (0, .ref (zsc Z)), (1, .ref (zb Z + a1)), (2, .ref (zb Z + a2))]) rfl (pc' := 1977) rfl ?_
        refine S_goto dL_law_1977 18 rfl ?_
        refine Sim.sub [1, 2, 3, 0] rfl ?_
        exact hF _ _
      · refine S_iconst dL_law_925 (v := 0) rfl (pc' := 926) rfl ?_
        exact hret 926 [(0, .ref (zsc Z)), (1, .ref (zb Z + a1)), (2, .ref (zb Z + a2)), (3, .int b3)] 0 h919 dL_law_926
    refine Sim.ite (fun g33_16 => ?_) (fun g33_16 => ?_)
    · refine S_tabIn dL_law_33 g33_16 16 rfl (by decide) (off := 894) rfl 927 rfl ?_
      refine S_aload_n dL_law_927 rfl 1 rfl (pc' := 928) rfl ?_
      refine S_invi ml_L_86 mi_X5_wipe (ci := 5) ⟨_, rfl, rfl⟩ (by decide) dL_law_928 [] rfl (fun v h2 q => c_X5_wipe Z l _ _ q) ⟨Nat.le_of_ble_eq_true rfl, Nat.le_of_ble_eq_true rfl⟩ (rest := []) (Nat.le_of_ble_eq_true rfl) rfl (pc' := 931) rfl (fun x928 h928 => ?_)
      refine S_aload_n dL_law_931 rfl 2 rfl (pc' := 932) rfl ?_
      refine S_invi ml_L_90 mi_X6_wipe (ci := 6) ⟨_, rfl, rfl⟩ (by decide) dL_law_932 [] rfl (fun v h2 q => c_X6_wipe Z l _ _ q) ⟨Nat.le_of_ble_eq_true rfl, Nat.le_of_ble_eq_true rfl⟩ (rest := [.int x928]) (Nat.le_of_ble_eq_true rfl) rfl (pc' := 935) rfl (fun x932 h932 => ?_)
      refine S_icmp_eq dL_law_935 1974 rfl (pc' := 938) rfl (fun g935 => ?_) (fun g935 => ?_)
      · refine S_iinc dL_law_1974 (q := 3) rfl (v := b3 + 6) rfl (by decide) (lo' := [(3, .int (b3 + 6)), (0, .ref (zsc Z)), (1, .ref (zb Z + a1)), (2, .ref (zb Z + a2))]) rfl (pc' := 1977) rfl ?_
        refine S_goto dL_law_1977 18 rfl ?_
        refine Sim.sub [1, 2, 3, 0] rfl ?_
        exact hF _ _
      · refine S_iconst dL_law_938 (v := 0) rfl (pc' := 939) rfl ?_
        exact hret 939 [(0, .ref (zsc Z)), (1, .ref (zb Z + a1)), (2, .ref (zb Z + a2)), (3, .int b3)] 0 h932 dL_law_939
    refine Sim.ite (fun g33_17 => ?_) (fun g33_17 => ?_)
    · refine S_tabIn dL_law_33 g33_17 17 rfl (by decide) (off := 907) rfl 940 rfl ?_
      refine S_aload_n dL_law_940 rfl 1 rfl (pc' := 941) rfl ?_
      refine S_invi ml_L_91 mi_X5_isle (ci := 5) ⟨_, rfl, rfl⟩ (by decide) dL_law_941 [] rfl (fun v h2 q => c_X5_isle Z l _ _ q) ⟨Nat.le_of_ble_eq_true rfl, Nat.le_of_ble_eq_true rfl⟩ (rest := []) (Nat.le_of_ble_eq_true rfl) rfl (pc' := 944) rfl (fun x941 h941 => ?_)
      refine S_aload_n dL_law_944 rfl 2 rfl (pc' := 945) rfl ?_
      refine S_invi ml_L_94 mi_X6_isle (ci := 6) ⟨_, rfl, rfl⟩ (by decide) dL_law_945 [] rfl (fun v h2 q => c_X6_isle Z l _ _ q) ⟨Nat.le_of_ble_eq_true rfl, Nat.le_of_ble_eq_true rfl⟩ (rest := [.int x941]) (Nat.le_of_ble_eq_true rfl) rfl (pc' := 948) rfl (fun x945 h945 => ?_)
      refine S_icmp_eq dL_law_948 1974 rfl (pc' := 951) rfl (fun g948 => ?_) (fun g948 => ?_)
      · refine S_iinc dL_law_1974 (q := 3) rfl (v := b3 + 6) rfl (by decide) (lo' := [(3, .int (b3 + 6)), (0, .ref (zsc Z)), (1, .ref (zb Z + a1)), (2, .ref (zb Z + a2))]) rfl (pc' := 1977) rfl ?_
        refine S_goto dL_law_1977 18 rfl ?_
        refine Sim.sub [1, 2, 3, 0] rfl ?_
        exact hF _ _
      · refine S_iconst dL_law_951 (v := 0) rfl (pc' := 952) rfl ?_
        exact hret 952 [(0, .ref (zsc Z)), (1, .ref (zb Z + a1)), (2, .ref (zb Z + a2)), (3, .int b3)] 0 h945 dL_law_952
    refine Sim.ite (fun g33_18 => ?_) (fun g33_18 => ?_)
    · refine S_tabIn dL_law_33 g33_18 18 rfl (by decide) (off := 920) rfl 953 rfl ?_
      refine S_aload_n dL_law_953 rfl 1 rfl (pc' := 954) rfl ?_
      refine S_aload_n dL_law_954 rfl 0 rfl (pc' := 955) rfl ?_
      refine S_iload_n dL_law_955 rfl 3 rfl (pc' := 956) rfl ?_
      refine S_iconst dL_law_956 (v := 1) rfl (pc' := 957) rfl ?_
      refine S_iadd dL_law_957 (pc' := 958) rfl ?_
      refine S_sld dL_law_958 (pc' := 959) rfl (fun x958 => ?_)
      refine S_aload_n dL_law_959 rfl 0 rfl (pc' := 960) rfl ?_
      refine S_iload_n dL_law_960 rfl 3 rfl (pc' := 961) rfl ?_
      refine S_iconst dL_law_961 (v := 2) rfl (pc' := 962) rfl ?_
      refine S_iadd dL_law_962 (pc' := 963) rfl ?_
      refine S_sld dL_law_963 (pc' := 964) rfl (fun x963 => ?_)
      refine S_invi ml_L_95 mi_X5_personOf (ci := 5) ⟨_, rfl, rfl⟩ (by decide) dL_law_964 [.int x958, .int x963] rfl (fun v h2 q => c_X5_personOf Z l _ _ _ _ q) ⟨Nat.le_of_ble_eq_true rfl, Nat.le_of_ble_eq_true rfl⟩ (rest := []) (Nat.le_of_ble_eq_true rfl) rfl (pc' := 967) rfl (fun x964 h964 => ?_)
      refine S_aload_n dL_law_967 rfl 2 rfl (pc' := 968) rfl ?_
      refine S_aload_n dL_law_968 rfl 0 rfl (pc' := 969) rfl ?_
      refine S_iload_n dL_law_969 rfl 3 rfl (pc' := 970) rfl ?_
      refine S_iconst dL_law_970 (v := 1) rfl (pc' := 971) rfl ?_
      refine S_iadd dL_law_971 (pc' := 972) rfl ?_
      refine S_sld dL_law_972 (pc' := 973) rfl (fun x972 => ?_)
      refine S_aload_n dL_law_973 rfl 0 rfl (pc' := 974) rfl ?_
      refine S_iload_n dL_law_974 rfl 3 rfl (pc' := 975) rfl ?_
      refine S_iconst dL_law_975 (v := 2) rfl (pc' := 976) rfl ?_
      refine S_iadd dL_law_976 (pc' := 977) rfl ?_
      refine S_sld dL_law_977 (pc' := 978) rfl (fun x977 => ?_)
      refine S_invi ml_L_98 mi_X6_personOf (ci := 6) ⟨_, rfl, rfl⟩ (by decide) dL_law_978 [.int x972, .int x977] rfl (fun v h2 q => c_X6_personOf Z l _ _ _ _ q) ⟨Nat.le_of_ble_eq_true rfl, Nat.le_of_ble_eq_true rfl⟩ (rest := [.int x964]) (Nat.le_of_ble_eq_true rfl) rfl (pc' := 981) rfl (fun x978 h978 => ?_)
      refine S_icmp_eq dL_law_981 1974 rfl (pc' := 984) rfl (fun g981 => ?_) (fun g981 => ?_)
      · refine S_iinc dL_law_1974 (q := 3) rfl (v := b3 + 6) rfl (by decide) (lo' := [(3, .int (b3 + 6)), (0, .ref (zsc Z)), (1, .ref (zb Z + a1)), (2, .ref (zb Z + a2))]) rfl (pc' := 1977) rfl ?_
        refine S_goto dL_law_1977 18 rfl ?_
        refine Sim.sub [1, 2, 3, 0] rfl ?_
        exact hF _ _
      · refine S_iconst dL_law_984 (v := 0) rfl (pc' := 985) rfl ?_
        exact hret 985 [(0, .ref (zsc Z)), (1, .ref (zb Z + a1)), (2, .ref (zb Z + a2)), (3, .int b3)] 0 h978 dL_law_985
    refine Sim.ite (fun g33_19 => ?_) (fun g33_19 => ?_)
    · refine S_tabIn dL_law_33 g33_19 19 rfl (by decide) (off := 953) rfl 986 rfl ?_
      refine S_aload_n dL_law_986 rfl 1 rfl (pc' := 987) rfl ?_
      refine S_aload_n dL_law_987 rfl 0 rfl (pc' := 988) rfl ?_
      refine S_iload_n dL_law_988 rfl 3 rfl (pc' := 989) rfl ?_
      refine S_iconst dL_law_989 (v := 1) rfl (pc' := 990) rfl ?_
      refine S_iadd dL_law_990 (pc' := 991) rfl ?_
      refine S_sld dL_law_991 (pc' := 992) rfl (fun x991 => ?_)
      refine S_aload_n dL_law_992 rfl 0 rfl (pc' := 993) rfl ?_
      refine S_iload_n dL_law_993 rfl 3 rfl (pc' := 994) rfl ?_
      refine S_iconst dL_law_994 (v := 2) rfl (pc' := 995) rfl ?_
      refine S_iadd dL_law_995 (pc' := 996) rfl ?_
      refine S_sld dL_law_996 (pc' := 997) rfl (fun x996 => ?_)
      refine S_invi ml_L_99 mi_X5_songOf (ci := 5) ⟨_, rfl, rfl⟩ (by decide) dL_law_997 [.int x991, .int x996] rfl (fun v h2 q => c_X5_songOf Z l _ _ _ _ q) ⟨Nat.le_of_ble_eq_true rfl, Nat.le_of_ble_eq_true rfl⟩ (rest := []) (Nat.le_of_ble_eq_true rfl) rfl (pc' := 1000) rfl (fun x997 h997 => ?_)
      refine S_aload_n dL_law_1000 rfl 2 rfl (pc' := 1001) rfl ?_
      refine S_aload_n dL_law_1001 rfl 0 rfl (pc' := 1002) rfl ?_
      refine S_iload_n dL_law_1002 rfl 3 rfl (pc' := 1003) rfl ?_
      refine S_iconst dL_law_1003 (v := 1) rfl (pc' := 1004) rfl ?_
      refine S_iadd dL_law_1004 (pc' := 1005) rfl ?_
      refine S_sld dL_law_1005 (pc' := 1006) rfl (fun x1005 => ?_)
      refine S_aload_n dL_law_1006 rfl 0 rfl (pc' := 1007) rfl ?_
      refine S_iload_n dL_law_1007 rfl 3 rfl (pc' := 1008) rfl ?_
      refine S_iconst dL_law_1008 (v := 2) rfl (pc' := 1009) rfl ?_
      refine S_iadd dL_law_1009 (pc' := 1010) rfl ?_
      refine S_sld dL_law_1010 (pc' := 1011) rfl (fun x1010 => ?_)
      refine S_invi ml_L_102 mi_X6_songOf (ci := 6) ⟨_, rfl, rfl⟩ (by decide) dL_law_1011 [.int x1005, .int x1010] rfl (fun v h2 q => c_X6_songOf Z l _ _ _ _ q) ⟨Nat.le_of_ble_eq_true rfl, Nat.le_of_ble_eq_true rfl⟩ (rest := [.int x997]) (Nat.le_of_ble_eq_true rfl) rfl (pc' := 1014) rfl (fun x1011 h1011 => ?_)
      refine S_icmp_eq dL_law_1014 1974 rfl (pc' := 1017) rfl (fun g1014 => ?_) (fun g1014 => ?_)
      · refine S_iinc dL_law_1974 (q := 3) rfl (v := b3 + 6) rfl (by decide) (lo' := [(3, .int (b3 + 6)), (0, .ref (zsc Z)), (1, .ref (zb Z + a1)), (2, .ref (zb Z + a2))]) rfl (pc' := 1977) rfl ?_
        refine S_goto dL_law_1977 18 rfl ?_
        refine Sim.sub [1, 2, 3, 0] rfl ?_
        exact hF _ _
      · refine S_iconst dL_law_1017 (v := 0) rfl (pc' := 1018) rfl ?_
        exact hret 1018 [(0, .ref (zsc Z)), (1, .ref (zb Z + a1)), (2, .ref (zb Z + a2)), (3, .int b3)] 0 h1011 dL_law_1018
    refine Sim.ite (fun g33_20 => ?_) (fun g33_20 => ?_)
    · refine S_tabIn dL_law_33 g33_20 20 rfl (by decide) (off := 986) rfl 1019 rfl ?_
      refine S_aload_n dL_law_1019 rfl 1 rfl (pc' := 1020) rfl ?_
      refine S_aload_n dL_law_1020 rfl 0 rfl (pc' := 1021) rfl ?_
      refine S_iload_n dL_law_1021 rfl 3 rfl (pc' := 1022) rfl ?_
      refine S_iconst dL_law_1022 (v := 1) rfl (pc' := 1023) rfl ?_
      refine S_iadd dL_law_1023 (pc' := 1024) rfl ?_
      refine S_sld dL_law_1024 (pc' := 1025) rfl (fun x1024 => ?_)
      refine S_aload_n dL_law_1025 rfl 0 rfl (pc' := 1026) rfl ?_
      refine S_iload_n dL_law_1026 rfl 3 rfl (pc' := 1027) rfl ?_
      refine S_iconst dL_law_1027 (v := 2) rfl (pc' := 1028) rfl ?_
      refine S_iadd dL_law_1028 (pc' := 1029) rfl ?_
      refine S_sld dL_law_1029 (pc' := 1030) rfl (fun x1029 => ?_)
      refine S_invi ml_L_103 mi_X5_years (ci := 5) ⟨_, rfl, rfl⟩ (by decide) dL_law_1030 [.int x1024, .int x1029] rfl (fun v h2 q => c_X5_years Z l _ _ _ _ q) ⟨Nat.le_of_ble_eq_true rfl, Nat.le_of_ble_eq_true rfl⟩ (rest := []) (Nat.le_of_ble_eq_true rfl) rfl (pc' := 1033) rfl (fun x1030 h1030 => ?_)
      refine S_aload_n dL_law_1033 rfl 2 rfl (pc' := 1034) rfl ?_
      refine S_aload_n dL_law_1034 rfl 0 rfl (pc' := 1035) rfl ?_
      refine S_iload_n dL_law_1035 rfl 3 rfl (pc' := 1036) rfl ?_
      refine S_iconst dL_law_1036 (v := 1) rfl (pc' := 1037) rfl ?_
      refine S_iadd dL_law_1037 (pc' := 1038) rfl ?_
      refine S_sld dL_law_1038 (pc' := 1039) rfl (fun x1038 => ?_)
      refine S_aload_n dL_law_1039 rfl 0 rfl (pc' := 1040) rfl ?_
      refine S_iload_n dL_law_1040 rfl 3 rfl (pc' := 1041) rfl ?_
      refine S_iconst dL_law_1041 (v := 2) rfl (pc' := 1042) rfl ?_
      refine S_iadd dL_law_1042 (pc' := 1043) rfl ?_
      refine S_sld dL_law_1043 (pc' := 1044) rfl (fun x1043 => ?_)
      refine S_invi ml_L_106 mi_X6_years (ci := 6) ⟨_, rfl, rfl⟩ (by decide) dL_law_1044 [.int x1038, .int x1043] rfl (fun v h2 q => c_X6_years Z l _ _ _ _ q) ⟨Nat.le_of_ble_eq_true rfl, Nat.le_of_ble_eq_true rfl⟩ (rest := [.int x1030]) (Nat.le_of_ble_eq_true rfl) rfl (pc' := 1047) rfl (fun x1044 h1044 => ?_)
      refine S_icmp_eq dL_law_1047 1974 rfl (pc' := 1050) rfl (fun g1047 => ?_) (fun g1047 => ?_)
      · refine S_iinc dL_law_1974 (q := 3) rfl (v := b3 + 6) rfl (by decide) (lo' := [(3, .int (b3 + 6)), (0, .ref (zsc Z)), (1, .ref (zb Z + a1)), (2, .ref (zb Z + a2))]) rfl (pc' := 1977) rfl ?_
        refine S_goto dL_law_1977 18 rfl ?_
        refine Sim.sub [1, 2, 3, 0] rfl ?_
        exact hF _ _
      · refine S_iconst dL_law_1050 (v := 0) rfl (pc' := 1051) rfl ?_
        exact hret 1051 [(0, .ref (zsc Z)), (1, .ref (zb Z + a1)), (2, .ref (zb Z + a2)), (3, .int b3)] 0 h1044 dL_law_1051
    refine Sim.ite (fun g33_21 => ?_) (fun g33_21 => ?_)
    · refine S_tabIn dL_law_33 g33_21 21 rfl (by decide) (off := 1019) rfl 1052 rfl ?_
      refine S_aload_n dL_law_1052 rfl 1 rfl (pc' := 1053) rfl ?_
      refine S_aload_n dL_law_1053 rfl 0 rfl (pc' := 1054) rfl ?_
      refine S_iload_n dL_law_1054 rfl 3 rfl (pc' := 1055) rfl ?_
      refine S_iconst dL_law_1055 (v := 1) rfl (pc' := 1056) rfl ?_
      refine S_iadd dL_law_1056 (pc' := 1057) rfl ?_
      refine S_sld dL_law_1057 (pc' := 1058) rfl (fun x1057 => ?_)
      refine S_aload_n dL_law_1058 rfl 0 rfl (pc' := 1059) rfl ?_
      refine S_iload_n dL_law_1059 rfl 3 rfl (pc' := 1060) rfl ?_
      refine S_iconst dL_law_1060 (v := 2) rfl (pc' := 1061) rfl ?_
      refine S_iadd dL_law_1061 (pc' := 1062) rfl ?_
      refine S_sld dL_law_1062 (pc' := 1063) rfl (fun x1062 => ?_)
      refine S_invi ml_L_107 mi_X5_hold (ci := 5) ⟨_, rfl, rfl⟩ (by decide) dL_law_1063 [.int x1057, .int x1062] rfl (fun v h2 q => c_X5_hold Z l _ _ _ _ q) ⟨Nat.le_of_ble_eq_true rfl, Nat.le_of_ble_eq_true rfl⟩ (rest := []) (Nat.le_of_ble_eq_true rfl) rfl (pc' := 1066) rfl (fun x1063 h1063 => ?_)
      refine S_aload_n dL_law_1066 rfl 2 rfl (pc' := 1067) rfl ?_
      refine S_aload_n dL_law_1067 rfl 0 rfl (pc' := 1068) rfl ?_
      refine S_iload_n dL_law_1068 rfl 3 rfl (pc' := 1069) rfl ?_
      refine S_iconst dL_law_1069 (v := 1) rfl (pc' := 1070) rfl ?_
      refine S_iadd dL_law_1070 (pc' := 1071) rfl ?_
      refine S_sld dL_law_1071 (pc' := 1072) rfl (fun x1071 => ?_)
      refine S_aload_n dL_law_1072 rfl 0 rfl (pc' := 1073) rfl ?_
      refine S_iload_n dL_law_1073 rfl 3 rfl (pc' := 1074) rfl ?_
      refine S_iconst dL_law_1074 (v := 2) rfl (pc' := 1075) rfl ?_
      refine S_iadd dL_law_1075 (pc' := 1076) rfl ?_
      refine S_sld dL_law_1076 (pc' := 1077) rfl (fun x1076 => ?_)
      refine S_invi ml_L_110 mi_X6_hold (ci := 6) ⟨_, rfl, rfl⟩ (by decide) dL_law_1077 [.int x1071, .int x1076] rfl (fun v h2 q => c_X6_hold Z l _ _ _ _ q) ⟨Nat.le_of_ble_eq_true rfl, Nat.le_of_ble_eq_true rfl⟩ (rest := [.int x1063]) (Nat.le_of_ble_eq_true rfl) rfl (pc' := 1080) rfl (fun x1077 h1077 => ?_)
      refine S_icmp_eq dL_law_1080 1974 rfl (pc' := 1083) rfl (fun g1080 => ?_) (fun g1080 => ?_)
      · refine S_iinc dL_law_1974 (q := 3) rfl (v := b3 + 6) rfl (by decide) (lo' := [(3, .int (b3 + 6)), (0, .ref (zsc Z)), (1, .ref (zb Z + a1)), (2, .ref (zb Z + a2))]) rfl (pc' := 1977) rfl ?_
        refine S_goto dL_law_1977 18 rfl ?_
        refine Sim.sub [1, 2, 3, 0] rfl ?_
        exact hF _ _
      · refine S_iconst dL_law_1083 (v := 0) rfl (pc' := 1084) rfl ?_
        exact hret 1084 [(0, .ref (zsc Z)), (1, .ref (zb Z + a1)), (2, .ref (zb Z + a2)), (3, .int b3)] 0 h1077 dL_law_1084
    refine Sim.ite (fun g33_22 => ?_) (fun g33_22 => ?_)
    · refine S_tabIn dL_law_33 g33_22 22 rfl (by decide) (off := 1052) rfl 1085 rfl ?_
      refine S_aload_n dL_law_1085 rfl 1 rfl (pc' := 1086) rfl ?_
      refine S_aload_n dL_law_1086 rfl 0 rfl (pc' := 1087) rfl ?_
      refine S_iload_n dL_law_1087 rfl 3 rfl (pc' := 1088) rfl ?_
      refine S_iconst dL_law_1088 (v := 1) rfl (pc' := 1089) rfl ?_
      refine S_iadd dL_law_1089 (pc' := 1090) rfl ?_
      refine S_sld dL_law_1090 (pc' := 1091) rfl (fun x1090 => ?_)
      refine S_aload_n dL_law_1091 rfl 0 rfl (pc' := 1092) rfl ?_
      refine S_iload_n dL_law_1092 rfl 3 rfl (pc' := 1093) rfl ?_
      refine S_iconst dL_law_1093 (v := 2) rfl (pc' := 1094) rfl ?_
      refine S_iadd dL_law_1094 (pc' := 1095) rfl ?_
      refine S_sld dL_law_1095 (pc' := 1096) rfl (fun x1095 => ?_)
      refine S_aload_n dL_law_1096 rfl 0 rfl (pc' := 1097) rfl ?_
      refine S_iload_n dL_law_1097 rfl 3 rfl (pc' := 1098) rfl ?_
      refine S_iconst dL_law_1098 (v := 3) rfl (pc' := 1099) rfl ?_
      refine S_iadd dL_law_1099 (pc' := 1100) rfl ?_
      refine S_sld dL_law_1100 (pc' := 1101) rfl (fun x1100 => ?_)
      refine S_invi ml_L_111 mi_X5_behind (ci := 5) ⟨_, rfl, rfl⟩ (by decide) dL_law_1101 [.int x1090, .int x1095, .int x1100] rfl (fun v h2 q => c_X5_behind Z l _ _ _ _ _ q) ⟨Nat.le_of_ble_eq_true rfl, Nat.le_of_ble_eq_true rfl⟩ (rest := []) (Nat.le_of_ble_eq_true rfl) rfl (pc' := 1104) rfl (fun x1101 h1101 => ?_)
      refine S_aload_n dL_law_1104 rfl 2 rfl (pc' := 1105) rfl ?_
      refine S_aload_n dL_law_1105 rfl 0 rfl (pc' := 1106) rfl ?_
      refine S_iload_n dL_law_1106 rfl 3 rfl (pc' := 1107) rfl ?_
      refine S_iconst dL_law_1107 (v := 1) rfl (pc' := 1108) rfl ?_
      refine S_iadd dL_law_1108 (pc' := 1109) rfl ?_
      refine S_sld dL_law_1109 (pc' := 1110) rfl (fun x1109 => ?_)
      refine S_aload_n dL_law_1110 rfl 0 rfl (pc' := 1111) rfl ?_
      refine S_iload_n dL_law_1111 rfl 3 rfl (pc' := 1112) rfl ?_
      refine S_iconst dL_law_1112 (v := 2) rfl (pc' := 1113) rfl ?_
      refine S_iadd dL_law_1113 (pc' := 1114) rfl ?_
      refine S_sld dL_law_1114 (pc' := 1115) rfl (fun x1114 => ?_)
      refine S_aload_n dL_law_1115 rfl 0 rfl (pc' := 1116) rfl ?_
      refine S_iload_n dL_law_1116 rfl 3 rfl (pc' := 1117) rfl ?_
      refine S_iconst dL_law_1117 (v := 3) rfl (pc' := 1118) rfl ?_
      refine S_iadd dL_law_1118 (pc' := 1119) rfl ?_
      refine S_sld dL_law_1119 (pc' := 1120) rfl (fun x1119 => ?_)
      refine S_invi ml_L_114 mi_X6_behind (ci := 6) ⟨_, rfl, rfl⟩ (by decide) dL_law_1120 [.int x1109, .int x1114, .int x1119] rfl (fun v h2 q => c_X6_behind Z l _ _ _ _ _ q) ⟨Nat.le_of_ble_eq_true rfl, Nat.le_of_ble_eq_true rfl⟩ (rest := [.int x1101]) (Nat.le_of_ble_eq_true rfl) rfl (pc' := 1123) rfl (fun x1120 h1120 => ?_)
      refine S_icmp_eq dL_law_1123 1974 rfl (pc' := 1126) rfl (fun g1123 => ?_) (fun g1123 => ?_)
      · refine S_iinc dL_law_1974 (q := 3) rfl (v := b3 + 6) rfl (by decide) (lo' := [(3, .int (b3 + 6)), (0, .ref (zsc Z)), (1, .ref (zb Z + a1)), (2, .ref (zb Z + a2))]) rfl (pc' := 1977) rfl ?_
        refine S_goto dL_law_1977 18 rfl ?_
        refine Sim.sub [1, 2, 3, 0] rfl ?_
        exact hF _ _
      · refine S_iconst dL_law_1126 (v := 0) rfl (pc' := 1127) rfl ?_
        exact hret 1127 [(0, .ref (zsc Z)), (1, .ref (zb Z + a1)), (2, .ref (zb Z + a2)), (3, .int b3)] 0 h1120 dL_law_1127
    refine Sim.ite (fun g33_23 => ?_) (fun g33_23 => ?_)
    · refine S_tabIn dL_law_33 g33_23 23 rfl (by decide) (off := 1095) rfl 1128 rfl ?_
      refine S_aload_n dL_law_1128 rfl 1 rfl (pc' := 1129) rfl ?_
      refine S_aload_n dL_law_1129 rfl 0 rfl (pc' := 1130) rfl ?_
      refine S_iload_n dL_law_1130 rfl 3 rfl (pc' := 1131) rfl ?_
      refine S_iconst dL_law_1131 (v := 1) rfl (pc' := 1132) rfl ?_
      refine S_iadd dL_law_1132 (pc' := 1133) rfl ?_
      refine S_sld dL_law_1133 (pc' := 1134) rfl (fun x1133 => ?_)
      refine S_invi ml_L_115 mi_X5_lostIn (ci := 5) ⟨_, rfl, rfl⟩ (by decide) dL_law_1134 [.int x1133] rfl (fun v h2 q => c_X5_lostIn Z l _ _ _ q) ⟨Nat.le_of_ble_eq_true rfl, Nat.le_of_ble_eq_true rfl⟩ (rest := []) (Nat.le_of_ble_eq_true rfl) rfl (pc' := 1137) rfl (fun x1134 h1134 => ?_)
      refine S_aload_n dL_law_1137 rfl 2 rfl (pc' := 1138) rfl ?_
      refine S_aload_n dL_law_1138 rfl 0 rfl (pc' := 1139) rfl ?_
      refine S_iload_n dL_law_1139 rfl 3 rfl (pc' := 1140) rfl ?_
      refine S_iconst dL_law_1140 (v := 1) rfl (pc' := 1141) rfl ?_
      refine S_iadd dL_law_1141 (pc' := 1142) rfl ?_
      refine S_sld dL_law_1142 (pc' := 1143) rfl (fun x1142 => ?_)
      refine S_invi ml_L_118 mi_X6_lostIn (ci := 6) ⟨_, rfl, rfl⟩ (by decide) dL_law_1143 [.int x1142] rfl (fun v h2 q => c_X6_lostIn Z l _ _ _ q) ⟨Nat.le_of_ble_eq_true rfl, Nat.le_of_ble_eq_true rfl⟩ (rest := [.int x1134]) (Nat.le_of_ble_eq_true rfl) rfl (pc' := 1146) rfl (fun x1143 h1143 => ?_)
      refine S_icmp_eq dL_law_1146 1974 rfl (pc' := 1149) rfl (fun g1146 => ?_) (fun g1146 => ?_)
      · refine S_iinc dL_law_1974 (q := 3) rfl (v := b3 + 6) rfl (by decide) (lo' := [(3, .int (b3 + 6)), (0, .ref (zsc Z)), (1, .ref (zb Z + a1)), (2, .ref (zb Z + a2))]) rfl (pc' := 1977) rfl ?_
        refine S_goto dL_law_1977 18 rfl ?_
        refine Sim.sub [1, 2, 3, 0] rfl ?_
        exact hF _ _
      · refine S_iconst dL_law_1149 (v := 0) rfl (pc' := 1150) rfl ?_
        exact hret 1150 [(0, .ref (zsc Z)), (1, .ref (zb Z + a1)), (2, .ref (zb Z + a2)), (3, .int b3)] 0 h1143 dL_law_1150
    refine Sim.ite (fun g33_24 => ?_) (fun g33_24 => ?_)
    · refine S_tabIn dL_law_33 g33_24 24 rfl (by decide) (off := 1118) rfl 1151 rfl ?_
      refine S_aload_n dL_law_1151 rfl 1 rfl (pc' := 1152) rfl ?_
      refine S_aload_n dL_law_1152 rfl 0 rfl (pc' := 1153) rfl ?_
      refine S_iload_n dL_law_1153 rfl 3 rfl (pc' := 1154) rfl ?_
      refine S_iconst dL_law_1154 (v := 1) rfl (pc' := 1155) rfl ?_
      refine S_iadd dL_law_1155 (pc' := 1156) rfl ?_
      refine S_sld dL_law_1156 (pc' := 1157) rfl (fun x1156 => ?_)
      refine S_invi ml_L_119 mi_X5_sungIn (ci := 5) ⟨_, rfl, rfl⟩ (by decide) dL_law_1157 [.int x1156] rfl (fun v h2 q => c_X5_sungIn Z l _ _ _ q) ⟨Nat.le_of_ble_eq_true rfl, Nat.le_of_ble_eq_true rfl⟩ (rest := []) (Nat.le_of_ble_eq_true rfl) rfl (pc' := 1160) rfl (fun x1157 h1157 => ?_)
      refine S_aload_n dL_law_1160 rfl 2 rfl (pc' := 1161) rfl ?_
      refine S_aload_n dL_law_1161 rfl 0 rfl (pc' := 1162) rfl ?_
      refine S_iload_n dL_law_1162 rfl 3 rfl (pc' := 1163) rfl ?_
      refine S_iconst dL_law_1163 (v := 1) rfl (pc' := 1164) rfl ?_
      refine S_iadd dL_law_1164 (pc' := 1165) rfl ?_
      refine S_sld dL_law_1165 (pc' := 1166) rfl (fun x1165 => ?_)
      refine S_invi ml_L_122 mi_X6_sungIn (ci := 6) ⟨_, rfl, rfl⟩ (by decide) dL_law_1166 [.int x1165] rfl (fun v h2 q => c_X6_sungIn Z l _ _ _ q) ⟨Nat.le_of_ble_eq_true rfl, Nat.le_of_ble_eq_true rfl⟩ (rest := [.int x1157]) (Nat.le_of_ble_eq_true rfl) rfl (pc' := 1169) rfl (fun x1166 h1166 => ?_)
      refine S_icmp_eq dL_law_1169 1974 rfl (pc' := 1172) rfl (fun g1169 => ?_) (fun g1169 => ?_)
      · refine S_iinc dL_law_1974 (q := 3) rfl (v := b3 + 6) rfl (by decide) (lo' := [(3, .int (b3 + 6)), (0, .ref (zsc Z)), (1, .ref (zb Z + a1)), (2, .ref (zb Z + a2))]) rfl (pc' := 1977) rfl ?_
        refine S_goto dL_law_1977 18 rfl ?_
        refine Sim.sub [1, 2, 3, 0] rfl ?_
        exact hF _ _
      · refine S_iconst dL_law_1172 (v := 0) rfl (pc' := 1173) rfl ?_
        exact hret 1173 [(0, .ref (zsc Z)), (1, .ref (zb Z + a1)), (2, .ref (zb Z + a2)), (3, .int b3)] 0 h1166 dL_law_1173
    refine Sim.ite (fun g33_25 => ?_) (fun g33_25 => ?_)
    · refine S_tabIn dL_law_33 g33_25 25 rfl (by decide) (off := 1141) rfl 1174 rfl ?_
      refine S_aload_n dL_law_1174 rfl 1 rfl (pc' := 1175) rfl ?_
      refine S_aload_n dL_law_1175 rfl 0 rfl (pc' := 1176) rfl ?_
      refine S_iload_n dL_law_1176 rfl 3 rfl (pc' := 1177) rfl ?_
      refine S_iconst dL_law_1177 (v := 1) rfl (pc' := 1178) rfl ?_
      refine S_iadd dL_law_1178 (pc' := 1179) rfl ?_
      refine S_sld dL_law_1179 (pc' := 1180) rfl (fun x1179 => ?_)
      refine S_invi ml_L_123 mi_X5_last (ci := 5) ⟨_, rfl, rfl⟩ (by decide) dL_law_1180 [.int x1179] rfl (fun v h2 q => c_X5_last Z l _ _ _ q) ⟨Nat.le_of_ble_eq_true rfl, Nat.le_of_ble_eq_true rfl⟩ (rest := []) (Nat.le_of_ble_eq_true rfl) rfl (pc' := 1183) rfl (fun x1180 h1180 => ?_)
      refine S_aload_n dL_law_1183 rfl 2 rfl (pc' := 1184) rfl ?_
      refine S_aload_n dL_law_1184 rfl 0 rfl (pc' := 1185) rfl ?_
      refine S_iload_n dL_law_1185 rfl 3 rfl (pc' := 1186) rfl ?_
      refine S_iconst dL_law_1186 (v := 1) rfl (pc' := 1187) rfl ?_
      refine S_iadd dL_law_1187 (pc' := 1188) rfl ?_
      refine S_sld dL_law_1188 (pc' := 1189) rfl (fun x1188 => ?_)
      refine S_invi ml_L_126 mi_X6_last (ci := 6) ⟨_, rfl, rfl⟩ (by decide) dL_law_1189 [.int x1188] rfl (fun v h2 q => c_X6_last Z l _ _ _ q) ⟨Nat.le_of_ble_eq_true rfl, Nat.le_of_ble_eq_true rfl⟩ (rest := [.int x1180]) (Nat.le_of_ble_eq_true rfl) rfl (pc' := 1192) rfl (fun x1189 h1189 => ?_)
      refine S_icmp_eq dL_law_1192 1974 rfl (pc' := 1195) rfl (fun g1192 => ?_) (fun g1192 => ?_)
      · refine S_iinc dL_law_1974 (q := 3) rfl (v := b3 + 6) rfl (by decide) (lo' := [(3, .int (b3 + 6)), (0, .ref (zsc Z)), (1, .ref (zb Z + a1)), (2, .ref (zb Z + a2))]) rfl (pc' := 1977) rfl ?_
        refine S_goto dL_law_1977 18 rfl ?_
        refine Sim.sub [1, 2, 3, 0] rfl ?_
        exact hF _ _
      · refine S_iconst dL_law_1195 (v := 0) rfl (pc' := 1196) rfl ?_
        exact hret 1196 [(0, .ref (zsc Z)), (1, .ref (zb Z + a1)), (2, .ref (zb Z + a2)), (3, .int b3)] 0 h1189 dL_law_1196
    refine Sim.ite (fun g33_26 => ?_) (fun g33_26 => ?_)
    · refine S_tabIn dL_law_33 g33_26 26 rfl (by decide) (off := 1164) rfl 1197 rfl ?_
      refine S_aload_n dL_law_1197 rfl 1 rfl (pc' := 1198) rfl ?_
      refine S_invi ml_L_127 mi_X5_finder (ci := 5) ⟨_, rfl, rfl⟩ (by decide) dL_law_1198 [] rfl (fun v h2 q => c_X5_finder Z l _ _ q) ⟨Nat.le_of_ble_eq_true rfl, Nat.le_of_ble_eq_true rfl⟩ (rest := []) (Nat.le_of_ble_eq_true rfl) rfl (pc' := 1201) rfl (fun x1198 h1198 => ?_)
      refine S_aload_n dL_law_1201 rfl 2 rfl (pc' := 1202) rfl ?_
      refine S_invi ml_L_130 mi_X6_finder (ci := 6) ⟨_, rfl, rfl⟩ (by decide) dL_law_1202 [] rfl (fun v h2 q => c_X6_finder Z l _ _ q) ⟨Nat.le_of_ble_eq_true rfl, Nat.le_of_ble_eq_true rfl⟩ (rest := [.int x1198]) (Nat.le_of_ble_eq_true rfl) rfl (pc' := 1205) rfl (fun x1202 h1202 => ?_)
      refine S_icmp_eq dL_law_1205 1974 rfl (pc' := 1208) rfl (fun g1205 => ?_) (fun g1205 => ?_)
      · refine S_iinc dL_law_1974 (q := 3) rfl (v := b3 + 6) rfl (by decide) (lo' := [(3, .int (b3 + 6)), (0, .ref (zsc Z)), (1, .ref (zb Z + a1)), (2, .ref (zb Z + a2))]) rfl (pc' := 1977) rfl ?_
        refine S_goto dL_law_1977 18 rfl ?_
        refine Sim.sub [1, 2, 3, 0] rfl ?_
        exact hF _ _
      · refine S_iconst dL_law_1208 (v := 0) rfl (pc' := 1209) rfl ?_
        exact hret 1209 [(0, .ref (zsc Z)), (1, .ref (zb Z + a1)), (2, .ref (zb Z + a2)), (3, .int b3)] 0 h1202 dL_law_1209
    refine Sim.ite (fun g33_27 => ?_) (fun g33_27 => ?_)
    · refine S_tabIn dL_law_33 g33_27 27 rfl (by decide) (off := 1177) rfl 1210 rfl ?_
      refine S_aload_n dL_law_1210 rfl 1 rfl (pc' := 1211) rfl ?_
      refine S_aload_n dL_law_1211 rfl 0 rfl (pc' := 1212) rfl ?_
      refine S_iload_n dL_law_1212 rfl 3 rfl (pc' := 1213) rfl ?_
      refine S_iconst dL_law_1213 (v := 1) rfl (pc' := 1214) rfl ?_
      refine S_iadd dL_law_1214 (pc' := 1215) rfl ?_
      refine S_sld dL_law_1215 (pc' := 1216) rfl (fun x1215 => ?_)
      refine S_invi ml_L_131 mi_X5_keep (ci := 5) ⟨_, rfl, rfl⟩ (by decide) dL_law_1216 [.int x1215] rfl (fun v h2 q => c_X5_keep Z l _ _ _ q) ⟨Nat.le_of_ble_eq_true rfl, Nat.le_of_ble_eq_true rfl⟩ (rest := []) (Nat.le_of_ble_eq_true rfl) rfl (pc' := 1219) rfl (fun x1216 h1216 => ?_)
      refine S_aload_n dL_law_1219 rfl 2 rfl (pc' := 1220) rfl ?_
      refine S_aload_n dL_law_1220 rfl 0 rfl (pc' := 1221) rfl ?_
      refine S_iload_n dL_law_1221 rfl 3 rfl (pc' := 1222) rfl ?_
      refine S_iconst dL_law_1222 (v := 1) rfl (pc' := 1223) rfl ?_
      refine S_iadd dL_law_1223 (pc' := 1224) rfl ?_
      refine S_sld dL_law_1224 (pc' := 1225) rfl (fun x1224 => ?_)
      refine S_invi ml_L_134 mi_X6_keep (ci := 6) ⟨_, rfl, rfl⟩ (by decide) dL_law_1225 [.int x1224] rfl (fun v h2 q => c_X6_keep Z l _ _ _ q) ⟨Nat.le_of_ble_eq_true rfl, Nat.le_of_ble_eq_true rfl⟩ (rest := [.int x1216]) (Nat.le_of_ble_eq_true rfl) rfl (pc' := 1228) rfl (fun x1225 h1225 => ?_)
      refine S_icmp_eq dL_law_1228 1974 rfl (pc' := 1231) rfl (fun g1228 => ?_) (fun g1228 => ?_)
      · refine S_iinc dL_law_1974 (q := 3) rfl (v := b3 + 6) rfl (by decide) (lo' := [(3, .int (b3 + 6)), (0, .ref (zsc Z)), (1, .ref (zb Z + a1)), (2, .ref (zb Z + a2))]) rfl (pc' := 1977) rfl ?_
        refine S_goto dL_law_1977 18 rfl ?_
        refine Sim.sub [1, 2, 3, 0] rfl ?_
        exact hF _ _
      · refine S_iconst dL_law_1231 (v := 0) rfl (pc' := 1232) rfl ?_
        exact hret 1232 [(0, .ref (zsc Z)), (1, .ref (zb Z + a1)), (2, .ref (zb Z + a2)), (3, .int b3)] 0 h1225 dL_law_1232
    refine Sim.ite (fun g33_28 => ?_) (fun g33_28 => ?_)
    · refine S_tabIn dL_law_33 g33_28 28 rfl (by decide) (off := 1200) rfl 1233 rfl ?_
      refine S_aload_n dL_law_1233 rfl 1 rfl (pc' := 1234) rfl ?_
      refine S_aload_n dL_law_1234 rfl 0 rfl (pc' := 1235) rfl ?_
      refine S_iload_n dL_law_1235 rfl 3 rfl (pc' := 1236) rfl ?_
      refine S_iconst dL_law_1236 (v := 1) rfl (pc' := 1237) rfl ?_
      refine S_iadd dL_law_1237 (pc' := 1238) rfl ?_
      refine S_sld dL_law_1238 (pc' := 1239) rfl (fun x1238 => ?_)
      refine S_aload_n dL_law_1239 rfl 0 rfl (pc' := 1240) rfl ?_
      refine S_iload_n dL_law_1240 rfl 3 rfl (pc' := 1241) rfl ?_
      refine S_iconst dL_law_1241 (v := 2) rfl (pc' := 1242) rfl ?_
      refine S_iadd dL_law_1242 (pc' := 1243) rfl ?_
      refine S_sld dL_law_1243 (pc' := 1244) rfl (fun x1243 => ?_)
      refine S_invi ml_L_135 mi_X5_workFor (ci := 5) ⟨_, rfl, rfl⟩ (by decide) dL_law_1244 [.int x1238, .int x1243] rfl (fun v h2 q => c_X5_workFor Z l _ _ _ _ q) ⟨Nat.le_of_ble_eq_true rfl, Nat.le_of_ble_eq_true rfl⟩ (rest := []) (Nat.le_of_ble_eq_true rfl) rfl (pc' := 1247) rfl (fun x1244 h1244 => ?_)
      refine S_aload_n dL_law_1247 rfl 2 rfl (pc' := 1248) rfl ?_
      refine S_aload_n dL_law_1248 rfl 0 rfl (pc' := 1249) rfl ?_
      refine S_iload_n dL_law_1249 rfl 3 rfl (pc' := 1250) rfl ?_
      refine S_iconst dL_law_1250 (v := 1) rfl (pc' := 1251) rfl ?_
      refine S_iadd dL_law_1251 (pc' := 1252) rfl ?_
      refine S_sld dL_law_1252 (pc' := 1253) rfl (fun x1252 => ?_)
      refine S_aload_n dL_law_1253 rfl 0 rfl (pc' := 1254) rfl ?_
      refine S_iload_n dL_law_1254 rfl 3 rfl (pc' := 1255) rfl ?_
      refine S_iconst dL_law_1255 (v := 2) rfl (pc' := 1256) rfl ?_
      refine S_iadd dL_law_1256 (pc' := 1257) rfl ?_
      refine S_sld dL_law_1257 (pc' := 1258) rfl (fun x1257 => ?_)
      refine S_invi ml_L_138 mi_X6_workFor (ci := 6) ⟨_, rfl, rfl⟩ (by decide) dL_law_1258 [.int x1252, .int x1257] rfl (fun v h2 q => c_X6_workFor Z l _ _ _ _ q) ⟨Nat.le_of_ble_eq_true rfl, Nat.le_of_ble_eq_true rfl⟩ (rest := [.int x1244]) (Nat.le_of_ble_eq_true rfl) rfl (pc' := 1261) rfl (fun x1258 h1258 => ?_)
      refine S_icmp_eq dL_law_1261 1974 rfl (pc' := 1264) rfl (fun g1261 => ?_) (fun g1261 => ?_)
      · refine S_iinc dL_law_1974 (q := 3) rfl (v := b3 + 6) rfl (by decide) (lo' := [(3, .int (b3 + 6)), (0, .ref (zsc Z)), (1, .ref (zb Z + a1)), (2, .ref (zb Z + a2))]) rfl (pc' := 1977) rfl ?_
        refine S_goto dL_law_1977 18 rfl ?_
        refine Sim.sub [1, 2, 3, 0] rfl ?_
        exact hF _ _
      · refine S_iconst dL_law_1264 (v := 0) rfl (pc' := 1265) rfl ?_
        exact hret 1265 [(0, .ref (zsc Z)), (1, .ref (zb Z + a1)), (2, .ref (zb Z + a2)), (3, .int b3)] 0 h1258 dL_law_1265
    refine Sim.ite (fun g33_29 => ?_) (fun g33_29 => ?_)
    · refine S_tabIn dL_law_33 g33_29 29 rfl (by decide) (off := 1233) rfl 1266 rfl ?_
      refine S_aload_n dL_law_1266 rfl 1 rfl (pc' := 1267) rfl ?_
      refine S_aload_n dL_law_1267 rfl 0 rfl (pc' := 1268) rfl ?_
      refine S_iload_n dL_law_1268 rfl 3 rfl (pc' := 1269) rfl ?_
      refine S_iconst dL_law_1269 (v := 1) rfl (pc' := 1270) rfl ?_
      refine S_iadd dL_law_1270 (pc' := 1271) rfl ?_
      refine S_sld dL_law_1271 (pc' := 1272) rfl (fun x1271 => ?_)
      refine S_aload_n dL_law_1272 rfl 0 rfl (pc' := 1273) rfl ?_
      refine S_iload_n dL_law_1273 rfl 3 rfl (pc' := 1274) rfl ?_
      refine S_iconst dL_law_1274 (v := 2) rfl (pc' := 1275) rfl ?_
      refine S_iadd dL_law_1275 (pc' := 1276) rfl ?_
      refine S_sld dL_law_1276 (pc' := 1277) rfl (fun x1276 => ?_)
      refine S_invi ml_L_139 mi_X5_teach (ci := 5) ⟨_, rfl, rfl⟩ (by decide) dL_law_1277 [.int x1271, .int x1276] rfl (fun v h2 q => c_X5_teach Z l _ _ _ _ q) ⟨Nat.le_of_ble_eq_true rfl, Nat.le_of_ble_eq_true rfl⟩ (rest := []) (Nat.le_of_ble_eq_true rfl) rfl (pc' := 1280) rfl (fun x1277 h1277 => ?_)
      refine S_aload_n dL_law_1280 rfl 2 rfl (pc' := 1281) rfl ?_
      refine S_aload_n dL_law_1281 rfl 0 rfl (pc' := 1282) rfl ?_
      refine S_iload_n dL_law_1282 rfl 3 rfl (pc' := 1283) rfl ?_
      refine S_iconst dL_law_1283 (v := 1) rfl (pc' := 1284) rfl ?_
      refine S_iadd dL_law_1284 (pc' := 1285) rfl ?_
      refine S_sld dL_law_1285 (pc' := 1286) rfl (fun x1285 => ?_)
      refine S_aload_n dL_law_1286 rfl 0 rfl (pc' := 1287) rfl ?_
      refine S_iload_n dL_law_1287 rfl 3 rfl (pc' := 1288) rfl ?_
      refine S_iconst dL_law_1288 (v := 2) rfl (pc' := 1289) rfl ?_
      refine S_iadd dL_law_1289 (pc' := 1290) rfl ?_
      refine S_sld dL_law_1290 (pc' := 1291) rfl (fun x1290 => ?_)
      refine S_invi ml_L_142 mi_X6_teach (ci := 6) ⟨_, rfl, rfl⟩ (by decide) dL_law_1291 [.int x1285, .int x1290] rfl (fun v h2 q => c_X6_teach Z l _ _ _ _ q) ⟨Nat.le_of_ble_eq_true rfl, Nat.le_of_ble_eq_true rfl⟩ (rest := [.int x1277]) (Nat.le_of_ble_eq_true rfl) rfl (pc' := 1294) rfl (fun x1291 h1291 => ?_)
      refine S_icmp_eq dL_law_1294 1974 rfl (pc' := 1297) rfl (fun g1294 => ?_) (fun g1294 => ?_)
      · refine S_iinc dL_law_1974 (q := 3) rfl (v := b3 + 6) rfl (by decide) (lo' := [(3, .int (b3 + 6)), (0, .ref (zsc Z)), (1, .ref (zb Z + a1)), (2, .ref (zb Z + a2))]) rfl (pc' := 1977) rfl ?_
        refine S_goto dL_law_1977 18 rfl ?_
        refine Sim.sub [1, 2, 3, 0] rfl ?_
        exact hF _ _
      · refine S_iconst dL_law_1297 (v := 0) rfl (pc' := 1298) rfl ?_
        exact hret 1298 [(0, .ref (zsc Z)), (1, .ref (zb Z + a1)), (2, .ref (zb Z + a2)), (3, .int b3)] 0 h1291 dL_law_1298
    refine Sim.ite (fun g33_30 => ?_) (fun g33_30 => ?_)
    · refine S_tabIn dL_law_33 g33_30 30 rfl (by decide) (off := 1266) rfl 1299 rfl ?_
      refine S_aload_n dL_law_1299 rfl 1 rfl (pc' := 1300) rfl ?_
      refine S_aload_n dL_law_1300 rfl 0 rfl (pc' := 1301) rfl ?_
      refine S_iload_n dL_law_1301 rfl 3 rfl (pc' := 1302) rfl ?_
      refine S_iconst dL_law_1302 (v := 1) rfl (pc' := 1303) rfl ?_
      refine S_iadd dL_law_1303 (pc' := 1304) rfl ?_
      refine S_sld dL_law_1304 (pc' := 1305) rfl (fun x1304 => ?_)
      refine S_invi ml_L_143 mi_X5_hummer (ci := 5) ⟨_, rfl, rfl⟩ (by decide) dL_law_1305 [.int x1304] rfl (fun v h2 q => c_X5_hummer Z l _ _ _ q) ⟨Nat.le_of_ble_eq_true rfl, Nat.le_of_ble_eq_true rfl⟩ (rest := []) (Nat.le_of_ble_eq_true rfl) rfl (pc' := 1308) rfl (fun x1305 h1305 => ?_)
      refine S_aload_n dL_law_1308 rfl 2 rfl (pc' := 1309) rfl ?_
      refine S_aload_n dL_law_1309 rfl 0 rfl (pc' := 1310) rfl ?_
      refine S_iload_n dL_law_1310 rfl 3 rfl (pc' := 1311) rfl ?_
      refine S_iconst dL_law_1311 (v := 1) rfl (pc' := 1312) rfl ?_
      refine S_iadd dL_law_1312 (pc' := 1313) rfl ?_
      refine S_sld dL_law_1313 (pc' := 1314) rfl (fun x1313 => ?_)
      refine S_invi ml_L_146 mi_X6_hummer (ci := 6) ⟨_, rfl, rfl⟩ (by decide) dL_law_1314 [.int x1313] rfl (fun v h2 q => c_X6_hummer Z l _ _ _ q) ⟨Nat.le_of_ble_eq_true rfl, Nat.le_of_ble_eq_true rfl⟩ (rest := [.int x1305]) (Nat.le_of_ble_eq_true rfl) rfl (pc' := 1317) rfl (fun x1314 h1314 => ?_)
      refine S_icmp_eq dL_law_1317 1974 rfl (pc' := 1320) rfl (fun g1317 => ?_) (fun g1317 => ?_)
      · refine S_iinc dL_law_1974 (q := 3) rfl (v := b3 + 6) rfl (by decide) (lo' := [(3, .int (b3 + 6)), (0, .ref (zsc Z)), (1, .ref (zb Z + a1)), (2, .ref (zb Z + a2))]) rfl (pc' := 1977) rfl ?_
        refine S_goto dL_law_1977 18 rfl ?_
        refine Sim.sub [1, 2, 3, 0] rfl ?_
        exact hF _ _
      · refine S_iconst dL_law_1320 (v := 0) rfl (pc' := 1321) rfl ?_
        exact hret 1321 [(0, .ref (zsc Z)), (1, .ref (zb Z + a1)), (2, .ref (zb Z + a2)), (3, .int b3)] 0 h1314 dL_law_1321
    refine Sim.ite (fun g33_31 => ?_) (fun g33_31 => ?_)
    · refine S_tabIn dL_law_33 g33_31 31 rfl (by decide) (off := 1289) rfl 1322 rfl ?_
      refine S_aload_n dL_law_1322 rfl 1 rfl (pc' := 1323) rfl ?_
      refine S_invi ml_L_147 mi_X5_next (ci := 5) ⟨_, rfl, rfl⟩ (by decide) dL_law_1323 [] rfl (fun v h2 q => c_X5_next Z l _ _ q) ⟨Nat.le_of_ble_eq_true rfl, Nat.le_of_ble_eq_true rfl⟩ (rest := []) (Nat.le_of_ble_eq_true rfl) rfl (pc' := 1326) rfl (fun x1323 h1323 => ?_)
      refine S_aload_n dL_law_1326 rfl 2 rfl (pc' := 1327) rfl ?_
      refine S_invi ml_L_150 mi_X6_next (ci := 6) ⟨_, rfl, rfl⟩ (by decide) dL_law_1327 [] rfl (fun v h2 q => c_X6_next Z l _ _ q) ⟨Nat.le_of_ble_eq_true rfl, Nat.le_of_ble_eq_true rfl⟩ (rest := [.int x1323]) (Nat.le_of_ble_eq_true rfl) rfl (pc' := 1330) rfl (fun x1327 h1327 => ?_)
      refine S_icmp_eq dL_law_1330 1974 rfl (pc' := 1333) rfl (fun g1330 => ?_) (fun g1330 => ?_)
      · refine S_iinc dL_law_1974 (q := 3) rfl (v := b3 + 6) rfl (by decide) (lo' := [(3, .int (b3 + 6)), (0, .ref (zsc Z)), (1, .ref (zb Z + a1)), (2, .ref (zb Z + a2))]) rfl (pc' := 1977) rfl ?_
        refine S_goto dL_law_1977 18 rfl ?_
        refine Sim.sub [1, 2, 3, 0] rfl ?_
        exact hF _ _
      · refine S_iconst dL_law_1333 (v := 0) rfl (pc' := 1334) rfl ?_
        exact hret 1334 [(0, .ref (zsc Z)), (1, .ref (zb Z + a1)), (2, .ref (zb Z + a2)), (3, .int b3)] 0 h1327 dL_law_1334
    refine Sim.ite (fun g33_32 => ?_) (fun g33_32 => ?_)
    · refine S_tabIn dL_law_33 g33_32 32 rfl (by decide) (off := 1302) rfl 1335 rfl ?_
      refine S_aload_n dL_law_1335 rfl 1 rfl (pc' := 1336) rfl ?_
      refine S_aload_n dL_law_1336 rfl 0 rfl (pc' := 1337) rfl ?_
      refine S_iload_n dL_law_1337 rfl 3 rfl (pc' := 1338) rfl ?_
      refine S_iconst dL_law_1338 (v := 1) rfl (pc' := 1339) rfl ?_
      refine S_iadd dL_law_1339 (pc' := 1340) rfl ?_
      refine S_sld dL_law_1340 (pc' := 1341) rfl (fun x1340 => ?_)
      refine S_invi ml_L_151 mi_X5_order (ci := 5) ⟨_, rfl, rfl⟩ (by decide) dL_law_1341 [.int x1340] rfl (fun v h2 q => c_X5_order Z l _ _ _ q) ⟨Nat.le_of_ble_eq_true rfl, Nat.le_of_ble_eq_true rfl⟩ (rest := []) (Nat.le_of_ble_eq_true rfl) rfl (pc' := 1344) rfl (fun x1341 h1341 => ?_)
      refine S_aload_n dL_law_1344 rfl 2 rfl (pc' := 1345) rfl ?_
      refine S_aload_n dL_law_1345 rfl 0 rfl (pc' := 1346) rfl ?_
      refine S_iload_n dL_law_1346 rfl 3 rfl (pc' := 1347) rfl ?_
      refine S_iconst dL_law_1347 (v := 1) rfl (pc' := 1348) rfl ?_
      refine S_iadd dL_law_1348 (pc' := 1349) rfl ?_
      refine S_sld dL_law_1349 (pc' := 1350) rfl (fun x1349 => ?_)
      refine S_invi ml_L_154 mi_X6_order (ci := 6) ⟨_, rfl, rfl⟩ (by decide) dL_law_1350 [.int x1349] rfl (fun v h2 q => c_X6_order Z l _ _ _ q) ⟨Nat.le_of_ble_eq_true rfl, Nat.le_of_ble_eq_true rfl⟩ (rest := [.int x1341]) (Nat.le_of_ble_eq_true rfl) rfl (pc' := 1353) rfl (fun x1350 h1350 => ?_)
      refine S_icmp_eq dL_law_1353 1974 rfl (pc' := 1356) rfl (fun g1353 => ?_) (fun g1353 => ?_)
      · refine S_iinc dL_law_1974 (q := 3) rfl (v := b3 + 6) rfl (by decide) (lo' := [(3, .int (b3 + 6)), (0, .ref (zsc Z)), (1, .ref (zb Z + a1)), (2, .ref (zb Z + a2))]) rfl (pc' := 1977) rfl ?_
        refine S_goto dL_law_1977 18 rfl ?_
        refine Sim.sub [1, 2, 3, 0] rfl ?_
        exact hF _ _
      · refine S_iconst dL_law_1356 (v := 0) rfl (pc' := 1357) rfl ?_
        exact hret 1357 [(0, .ref (zsc Z)), (1, .ref (zb Z + a1)), (2, .ref (zb Z + a2)), (3, .int b3)] 0 h1350 dL_law_1357
    refine Sim.ite (fun g33_33 => ?_) (fun g33_33 => ?_)
    · refine S_tabIn dL_law_33 g33_33 33 rfl (by decide) (off := 1325) rfl 1358 rfl ?_
      refine S_aload_n dL_law_1358 rfl 1 rfl (pc' := 1359) rfl ?_
      refine S_aload_n dL_law_1359 rfl 0 rfl (pc' := 1360) rfl ?_
      refine S_iload_n dL_law_1360 rfl 3 rfl (pc' := 1361) rfl ?_
      refine S_iconst dL_law_1361 (v := 1) rfl (pc' := 1362) rfl ?_
      refine S_iadd dL_law_1362 (pc' := 1363) rfl ?_
      refine S_sld dL_law_1363 (pc' := 1364) rfl (fun x1363 => ?_)
      refine S_aload_n dL_law_1364 rfl 0 rfl (pc' := 1365) rfl ?_
      refine S_iload_n dL_law_1365 rfl 3 rfl (pc' := 1366) rfl ?_
      refine S_iconst dL_law_1366 (v := 2) rfl (pc' := 1367) rfl ?_
      refine S_iadd dL_law_1367 (pc' := 1368) rfl ?_
      refine S_sld dL_law_1368 (pc' := 1369) rfl (fun x1368 => ?_)
      refine S_invi ml_L_155 mi_X5_changes (ci := 5) ⟨_, rfl, rfl⟩ (by decide) dL_law_1369 [.int x1363, .int x1368] rfl (fun v h2 q => c_X5_changes Z l _ _ _ _ q) ⟨Nat.le_of_ble_eq_true rfl, Nat.le_of_ble_eq_true rfl⟩ (rest := []) (Nat.le_of_ble_eq_true rfl) rfl (pc' := 1372) rfl (fun x1369 h1369 => ?_)
      refine S_aload_n dL_law_1372 rfl 2 rfl (pc' := 1373) rfl ?_
      refine S_aload_n dL_law_1373 rfl 0 rfl (pc' := 1374) rfl ?_
      refine S_iload_n dL_law_1374 rfl 3 rfl (pc' := 1375) rfl ?_
      refine S_iconst dL_law_1375 (v := 1) rfl (pc' := 1376) rfl ?_
      refine S_iadd dL_law_1376 (pc' := 1377) rfl ?_
      refine S_sld dL_law_1377 (pc' := 1378) rfl (fun x1377 => ?_)
      refine S_aload_n dL_law_1378 rfl 0 rfl (pc' := 1379) rfl ?_
      refine S_iload_n dL_law_1379 rfl 3 rfl (pc' := 1380) rfl ?_
      refine S_iconst dL_law_1380 (v := 2) rfl (pc' := 1381) rfl ?_
      refine S_iadd dL_law_1381 (pc' := 1382) rfl ?_
      refine S_sld dL_law_1382 (pc' := 1383) rfl (fun x1382 => ?_)
      refine S_invi ml_L_158 mi_X6_changes (ci := 6) ⟨_, rfl, rfl⟩ (by decide) dL_law_1383 [.int x1377, .int x1382] rfl (fun v h2 q => c_X6_changes Z l _ _ _ _ q) ⟨Nat.le_of_ble_eq_true rfl, Nat.le_of_ble_eq_true rfl⟩ (rest := [.int x1369]) (Nat.le_of_ble_eq_true rfl) rfl (pc' := 1386) rfl (fun x1383 h1383 => ?_)
      refine S_icmp_eq dL_law_1386 1974 rfl (pc' := 1389) rfl (fun g1386 => ?_) (fun g1386 => ?_)
      · refine S_iinc dL_law_1974 (q := 3) rfl (v := b3 + 6) rfl (by decide) (lo' := [(3, .int (b3 + 6)), (0, .ref (zsc Z)), (1, .ref (zb Z + a1)), (2, .ref (zb Z + a2))]) rfl (pc' := 1977) rfl ?_
        refine S_goto dL_law_1977 18 rfl ?_
        refine Sim.sub [1, 2, 3, 0] rfl ?_
        exact hF _ _
      · refine S_iconst dL_law_1389 (v := 0) rfl (pc' := 1390) rfl ?_
        exact hret 1390 [(0, .ref (zsc Z)), (1, .ref (zb Z + a1)), (2, .ref (zb Z + a2)), (3, .int b3)] 0 h1383 dL_law_1390
    refine Sim.ite (fun g33_34 => ?_) (fun g33_34 => ?_)
    · refine S_tabIn dL_law_33 g33_34 34 rfl (by decide) (off := 1358) rfl 1391 rfl ?_
      refine S_aload_n dL_law_1391 rfl 1 rfl (pc' := 1392) rfl ?_
      refine S_aload_n dL_law_1392 rfl 0 rfl (pc' := 1393) rfl ?_
      refine S_iload_n dL_law_1393 rfl 3 rfl (pc' := 1394) rfl ?_
      refine S_iconst dL_law_1394 (v := 1) rfl (pc' := 1395) rfl ?_
      refine S_iadd dL_law_1395 (pc' := 1396) rfl ?_
      refine S_sld dL_law_1396 (pc' := 1397) rfl (fun x1396 => ?_)
      refine S_aload_n dL_law_1397 rfl 0 rfl (pc' := 1398) rfl ?_
      refine S_iload_n dL_law_1398 rfl 3 rfl (pc' := 1399) rfl ?_
      refine S_iconst dL_law_1399 (v := 2) rfl (pc' := 1400) rfl ?_
      refine S_iadd dL_law_1400 (pc' := 1401) rfl ?_
      refine S_sld dL_law_1401 (pc' := 1402) rfl (fun x1401 => ?_)
      refine S_invi ml_L_159 mi_X5_join (ci := 5) ⟨_, rfl, rfl⟩ (by decide) dL_law_1402 [.int x1396, .int x1401] rfl (fun v h2 q => c_X5_join Z l _ _ _ _ q) ⟨Nat.le_of_ble_eq_true rfl, Nat.le_of_ble_eq_true rfl⟩ (rest := []) (Nat.le_of_ble_eq_true rfl) rfl (pc' := 1405) rfl (fun x1402 h1402 => ?_)
      refine S_aload_n dL_law_1405 rfl 2 rfl (pc' := 1406) rfl ?_
      refine S_aload_n dL_law_1406 rfl 0 rfl (pc' := 1407) rfl ?_
      refine S_iload_n dL_law_1407 rfl 3 rfl (pc' := 1408) rfl ?_
      refine S_iconst dL_law_1408 (v := 1) rfl (pc' := 1409) rfl ?_
      refine S_iadd dL_law_1409 (pc' := 1410) rfl ?_
      refine S_sld dL_law_1410 (pc' := 1411) rfl (fun x1410 => ?_)
      refine S_aload_n dL_law_1411 rfl 0 rfl (pc' := 1412) rfl ?_
      refine S_iload_n dL_law_1412 rfl 3 rfl (pc' := 1413) rfl ?_
      refine S_iconst dL_law_1413 (v := 2) rfl (pc' := 1414) rfl ?_
      refine S_iadd dL_law_1414 (pc' := 1415) rfl ?_
      refine S_sld dL_law_1415 (pc' := 1416) rfl (fun x1415 => ?_)
      refine S_invi ml_L_162 mi_X6_join (ci := 6) ⟨_, rfl, rfl⟩ (by decide) dL_law_1416 [.int x1410, .int x1415] rfl (fun v h2 q => c_X6_join Z l _ _ _ _ q) ⟨Nat.le_of_ble_eq_true rfl, Nat.le_of_ble_eq_true rfl⟩ (rest := [.int x1402]) (Nat.le_of_ble_eq_true rfl) rfl (pc' := 1419) rfl (fun x1416 h1416 => ?_)
      refine S_icmp_eq dL_law_1419 1974 rfl (pc' := 1422) rfl (fun g1419 => ?_) (fun g1419 => ?_)
      · refine S_iinc dL_law_1974 (q := 3) rfl (v := b3 + 6) rfl (by decide) (lo' := [(3, .int (b3 + 6)), (0, .ref (zsc Z)), (1, .ref (zb Z + a1)), (2, .ref (zb Z + a2))]) rfl (pc' := 1977) rfl ?_
        refine S_goto dL_law_1977 18 rfl ?_
        refine Sim.sub [1, 2, 3, 0] rfl ?_
        exact hF _ _
      · refine S_iconst dL_law_1422 (v := 0) rfl (pc' := 1423) rfl ?_
        exact hret 1423 [(0, .ref (zsc Z)), (1, .ref (zb Z + a1)), (2, .ref (zb Z + a2)), (3, .int b3)] 0 h1416 dL_law_1423
    refine Sim.ite (fun g33_35 => ?_) (fun g33_35 => ?_)
    · refine S_tabIn dL_law_33 g33_35 35 rfl (by decide) (off := 1391) rfl 1424 rfl ?_
      refine S_aload_n dL_law_1424 rfl 1 rfl (pc' := 1425) rfl ?_
      refine S_aload_n dL_law_1425 rfl 0 rfl (pc' := 1426) rfl ?_
      refine S_iload_n dL_law_1426 rfl 3 rfl (pc' := 1427) rfl ?_
      refine S_iconst dL_law_1427 (v := 1) rfl (pc' := 1428) rfl ?_
      refine S_iadd dL_law_1428 (pc' := 1429) rfl ?_
      refine S_sld dL_law_1429 (pc' := 1430) rfl (fun x1429 => ?_)
      refine S_aload_n dL_law_1430 rfl 0 rfl (pc' := 1431) rfl ?_
      refine S_iload_n dL_law_1431 rfl 3 rfl (pc' := 1432) rfl ?_
      refine S_iconst dL_law_1432 (v := 2) rfl (pc' := 1433) rfl ?_
      refine S_iadd dL_law_1433 (pc' := 1434) rfl ?_
      refine S_sld dL_law_1434 (pc' := 1435) rfl (fun x1434 => ?_)
      refine S_invi ml_L_163 mi_X5_like (ci := 5) ⟨_, rfl, rfl⟩ (by decide) dL_law_1435 [.int x1429, .int x1434] rfl (fun v h2 q => c_X5_like Z l _ _ _ _ q) ⟨Nat.le_of_ble_eq_true rfl, Nat.le_of_ble_eq_true rfl⟩ (rest := []) (Nat.le_of_ble_eq_true rfl) rfl (pc' := 1438) rfl (fun x1435 h1435 => ?_)
      refine S_aload_n dL_law_1438 rfl 2 rfl (pc' := 1439) rfl ?_
      refine S_aload_n dL_law_1439 rfl 0 rfl (pc' := 1440) rfl ?_
      refine S_iload_n dL_law_1440 rfl 3 rfl (pc' := 1441) rfl ?_
      refine S_iconst dL_law_1441 (v := 1) rfl (pc' := 1442) rfl ?_
      refine S_iadd dL_law_1442 (pc' := 1443) rfl ?_
      refine S_sld dL_law_1443 (pc' := 1444) rfl (fun x1443 => ?_)
      refine S_aload_n dL_law_1444 rfl 0 rfl (pc' := 1445) rfl ?_
      refine S_iload_n dL_law_1445 rfl 3 rfl (pc' := 1446) rfl ?_
      refine S_iconst dL_law_1446 (v := 2) rfl (pc' := 1447) rfl ?_
      refine S_iadd dL_law_1447 (pc' := 1448) rfl ?_
      refine S_sld dL_law_1448 (pc' := 1449) rfl (fun x1448 => ?_)
      refine S_invi ml_L_166 mi_X6_like (ci := 6) ⟨_, rfl, rfl⟩ (by decide) dL_law_1449 [.int x1443, .int x1448] rfl (fun v h2 q => c_X6_like Z l _ _ _ _ q) ⟨Nat.le_of_ble_eq_true rfl, Nat.le_of_ble_eq_true rfl⟩ (rest := [.int x1435]) (Nat.le_of_ble_eq_true rfl) rfl (pc' := 1452) rfl (fun x1449 h1449 => ?_)
      refine S_icmp_eq dL_law_1452 1974 rfl (pc' := 1455) rfl (fun g1452 => ?_) (fun g1452 => ?_)
      · refine S_iinc dL_law_1974 (q := 3) rfl (v := b3 + 6) rfl (by decide) (lo' := [(3, .int (b3 + 6)), (0, .ref (zsc Z)), (1, .ref (zb Z + a1)), (2, .ref (zb Z + a2))]) rfl (pc' := 1977) rfl ?_
        refine S_goto dL_law_1977 18 rfl ?_
        refine Sim.sub [1, 2, 3, 0] rfl ?_
        exact hF _ _
      · refine S_iconst dL_law_1455 (v := 0) rfl (pc' := 1456) rfl ?_
        exact hret 1456 [(0, .ref (zsc Z)), (1, .ref (zb Z + a1)), (2, .ref (zb Z + a2)), (3, .int b3)] 0 h1449 dL_law_1456
    refine Sim.ite (fun g33_36 => ?_) (fun g33_36 => ?_)
    · refine S_tabIn dL_law_33 g33_36 36 rfl (by decide) (off := 1424) rfl 1457 rfl ?_
      refine S_aload_n dL_law_1457 rfl 1 rfl (pc' := 1458) rfl ?_
      refine S_aload_n dL_law_1458 rfl 0 rfl (pc' := 1459) rfl ?_
      refine S_iload_n dL_law_1459 rfl 3 rfl (pc' := 1460) rfl ?_
      refine S_iconst dL_law_1460 (v := 1) rfl (pc' := 1461) rfl ?_
      refine S_iadd dL_law_1461 (pc' := 1462) rfl ?_
      refine S_sld dL_law_1462 (pc' := 1463) rfl (fun x1462 => ?_)
      refine S_aload_n dL_law_1463 rfl 0 rfl (pc' := 1464) rfl ?_
      refine S_iload_n dL_law_1464 rfl 3 rfl (pc' := 1465) rfl ?_
      refine S_iconst dL_law_1465 (v := 2) rfl (pc' := 1466) rfl ?_
      refine S_iadd dL_law_1466 (pc' := 1467) rfl ?_
      refine S_sld dL_law_1467 (pc' := 1468) rfl (fun x1467 => ?_)
      refine S_aload_n dL_law_1468 rfl 0 rfl (pc' := 1469) rfl ?_
      refine S_iload_n dL_law_1469 rfl 3 rfl (pc' := 1470) rfl ?_
      refine S_iconst dL_law_1470 (v := 3) rfl (pc' := 1471) rfl ?_
      refine S_iadd dL_law_1471 (pc' := 1472) rfl ?_
      refine S_sld dL_law_1472 (pc' := 1473) rfl (fun x1472 => ?_)
      refine S_invi ml_L_167 mi_X5_nearest (ci := 5) ⟨_, rfl, rfl⟩ (by decide) dL_law_1473 [.int x1462, .int x1467, .int x1472] rfl (fun v h2 q => c_X5_nearest Z l _ _ _ _ _ q) ⟨Nat.le_of_ble_eq_true rfl, Nat.le_of_ble_eq_true rfl⟩ (rest := []) (Nat.le_of_ble_eq_true rfl) rfl (pc' := 1476) rfl (fun x1473 h1473 => ?_)
      refine S_aload_n dL_law_1476 rfl 2 rfl (pc' := 1477) rfl ?_
      refine S_aload_n dL_law_1477 rfl 0 rfl (pc' := 1478) rfl ?_
      refine S_iload_n dL_law_1478 rfl 3 rfl (pc' := 1479) rfl ?_
      refine S_iconst dL_law_1479 (v := 1) rfl (pc' := 1480) rfl ?_
      refine S_iadd dL_law_1480 (pc' := 1481) rfl ?_
      refine S_sld dL_law_1481 (pc' := 1482) rfl (fun x1481 => ?_)
      refine S_aload_n dL_law_1482 rfl 0 rfl (pc' := 1483) rfl ?_
      refine S_iload_n dL_law_1483 rfl 3 rfl (pc' := 1484) rfl ?_
      refine S_iconst dL_law_1484 (v := 2) rfl (pc' := 1485) rfl ?_
      refine S_iadd dL_law_1485 (pc' := 1486) rfl ?_
      refine S_sld dL_law_1486 (pc' := 1487) rfl (fun x1486 => ?_)
      refine S_aload_n dL_law_1487 rfl 0 rfl (pc' := 1488) rfl ?_
      refine S_iload_n dL_law_1488 rfl 3 rfl (pc' := 1489) rfl ?_
      refine S_iconst dL_law_1489 (v := 3) rfl (pc' := 1490) rfl ?_
      refine S_iadd dL_law_1490 (pc' := 1491) rfl ?_
      refine S_sld dL_law_1491 (pc' := 1492) rfl (fun x1491 => ?_)
      refine S_invi ml_L_170 mi_X6_nearest (ci := 6) ⟨_, rfl, rfl⟩ (by decide) dL_law_1492 [.int x1481, .int x1486, .int x1491] rfl (fun v h2 q => c_X6_nearest Z l _ _ _ _ _ q) ⟨Nat.le_of_ble_eq_true rfl, Nat.le_of_ble_eq_true rfl⟩ (rest := [.int x1473]) (Nat.le_of_ble_eq_true rfl) rfl (pc' := 1495) rfl (fun x1492 h1492 => ?_)
      refine S_icmp_eq dL_law_1495 1974 rfl (pc' := 1498) rfl (fun g1495 => ?_) (fun g1495 => ?_)
      · refine S_iinc dL_law_1974 (q := 3) rfl (v := b3 + 6) rfl (by decide) (lo' := [(3, .int (b3 + 6)), (0, .ref (zsc Z)), (1, .ref (zb Z + a1)), (2, .ref (zb Z + a2))]) rfl (pc' := 1977) rfl ?_
        refine S_goto dL_law_1977 18 rfl ?_
        refine Sim.sub [1, 2, 3, 0] rfl ?_
        exact hF _ _
      · refine S_iconst dL_law_1498 (v := 0) rfl (pc' := 1499) rfl ?_
        exact hret 1499 [(0, .ref (zsc Z)), (1, .ref (zb Z + a1)), (2, .ref (zb Z + a2)), (3, .int b3)] 0 h1492 dL_law_1499
    refine Sim.ite (fun g33_37 => ?_) (fun g33_37 => ?_)
    · refine S_tabIn dL_law_33 g33_37 37 rfl (by decide) (off := 1467) rfl 1500 rfl ?_
      refine S_aload_n dL_law_1500 rfl 1 rfl (pc' := 1501) rfl ?_
      refine S_aload_n dL_law_1501 rfl 0 rfl (pc' := 1502) rfl ?_
      refine S_iload_n dL_law_1502 rfl 3 rfl (pc' := 1503) rfl ?_
      refine S_iconst dL_law_1503 (v := 1) rfl (pc' := 1504) rfl ?_
      refine S_iadd dL_law_1504 (pc' := 1505) rfl ?_
      refine S_sld dL_law_1505 (pc' := 1506) rfl (fun x1505 => ?_)
      refine S_aload_n dL_law_1506 rfl 0 rfl (pc' := 1507) rfl ?_
      refine S_iload_n dL_law_1507 rfl 3 rfl (pc' := 1508) rfl ?_
      refine S_iconst dL_law_1508 (v := 2) rfl (pc' := 1509) rfl ?_
      refine S_iadd dL_law_1509 (pc' := 1510) rfl ?_
      refine S_sld dL_law_1510 (pc' := 1511) rfl (fun x1510 => ?_)
      refine S_aload_n dL_law_1511 rfl 0 rfl (pc' := 1512) rfl ?_
      refine S_iload_n dL_law_1512 rfl 3 rfl (pc' := 1513) rfl ?_
      refine S_iconst dL_law_1513 (v := 3) rfl (pc' := 1514) rfl ?_
      refine S_iadd dL_law_1514 (pc' := 1515) rfl ?_
      refine S_sld dL_law_1515 (pc' := 1516) rfl (fun x1515 => ?_)
      refine S_aload_n dL_law_1516 rfl 0 rfl (pc' := 1517) rfl ?_
      refine S_iload_n dL_law_1517 rfl 3 rfl (pc' := 1518) rfl ?_
      refine S_iconst dL_law_1518 (v := 4) rfl (pc' := 1519) rfl ?_
      refine S_iadd dL_law_1519 (pc' := 1520) rfl ?_
      refine S_sld dL_law_1520 (pc' := 1521) rfl (fun x1520 => ?_)
      refine S_invi ml_L_171 mi_X5_fits (ci := 5) ⟨_, rfl, rfl⟩ (by decide) dL_law_1521 [.int x1505, .int x1510, .int x1515, .int x1520] rfl (fun v h2 q => c_X5_fits Z l _ _ _ _ _ _ q) ⟨Nat.le_of_ble_eq_true rfl, Nat.le_of_ble_eq_true rfl⟩ (rest := []) (Nat.le_of_ble_eq_true rfl) rfl (pc' := 1524) rfl (fun x1521 h1521 => ?_)
      refine S_aload_n dL_law_1524 rfl 2 rfl (pc' := 1525) rfl ?_
      refine S_aload_n dL_law_1525 rfl 0 rfl (pc' := 1526) rfl ?_
      refine S_iload_n dL_law_1526 rfl 3 rfl (pc' := 1527) rfl ?_
      refine S_iconst dL_law_1527 (v := 1) rfl (pc' := 1528) rfl ?_
      refine S_iadd dL_law_1528 (pc' := 1529) rfl ?_
      refine S_sld dL_law_1529 (pc' := 1530) rfl (fun x1529 => ?_)
      refine S_aload_n dL_law_1530 rfl 0 rfl (pc' := 1531) rfl ?_
      refine S_iload_n dL_law_1531 rfl 3 rfl (pc' := 1532) rfl ?_
      refine S_iconst dL_law_1532 (v := 2) rfl (pc' := 1533) rfl ?_
      refine S_iadd dL_law_1533 (pc' := 1534) rfl ?_
      refine S_sld dL_law_1534 (pc' := 1535) rfl (fun x1534 => ?_)
      refine S_aload_n dL_law_1535 rfl 0 rfl (pc' := 1536) rfl ?_
      refine S_iload_n dL_law_1536 rfl 3 rfl (pc' := 1537) rfl ?_
      refine S_iconst dL_law_1537 (v := 3) rfl (pc' := 1538) rfl ?_
      refine S_iadd dL_law_1538 (pc' := 1539) rfl ?_
      refine S_sld dL_law_1539 (pc' := 1540) rfl (fun x1539 => ?_)
      refine S_aload_n dL_law_1540 rfl 0 rfl (pc' := 1541) rfl ?_
      refine S_iload_n dL_law_1541 rfl 3 rfl (pc' := 1542) rfl ?_
      refine S_iconst dL_law_1542 (v := 4) rfl (pc' := 1543) rfl ?_
      refine S_iadd dL_law_1543 (pc' := 1544) rfl ?_
      refine S_sld dL_law_1544 (pc' := 1545) rfl (fun x1544 => ?_)
      refine S_invi ml_L_174 mi_X6_fits (ci := 6) ⟨_, rfl, rfl⟩ (by decide) dL_law_1545 [.int x1529, .int x1534, .int x1539, .int x1544] rfl (fun v h2 q => c_X6_fits Z l _ _ _ _ _ _ q) ⟨Nat.le_of_ble_eq_true rfl, Nat.le_of_ble_eq_true rfl⟩ (rest := [.int x1521]) (Nat.le_of_ble_eq_true rfl) rfl (pc' := 1548) rfl (fun x1545 h1545 => ?_)
      refine S_icmp_eq dL_law_1548 1974 rfl (pc' := 1551) rfl (fun g1548 => ?_) (fun g1548 => ?_)
      · refine S_iinc dL_law_1974 (q := 3) rfl (v := b3 + 6) rfl (by decide) (lo' := [(3, .int (b3 + 6)), (0, .ref (zsc Z)), (1, .ref (zb Z + a1)), (2, .ref (zb Z + a2))]) rfl (pc' := 1977) rfl ?_
        refine S_goto dL_law_1977 18 rfl ?_
        refine Sim.sub [1, 2, 3, 0] rfl ?_
        exact hF _ _
      · refine S_iconst dL_law_1551 (v := 0) rfl (pc' := 1552) rfl ?_
        exact hret 1552 [(0, .ref (zsc Z)), (1, .ref (zb Z + a1)), (2, .ref (zb Z + a2)), (3, .int b3)] 0 h1545 dL_law_1552
    refine Sim.ite (fun g33_38 => ?_) (fun g33_38 => ?_)
    · refine S_tabIn dL_law_33 g33_38 38 rfl (by decide) (off := 1520) rfl 1553 rfl ?_
      refine S_aload_n dL_law_1553 rfl 1 rfl (pc' := 1554) rfl ?_
      refine S_aload_n dL_law_1554 rfl 0 rfl (pc' := 1555) rfl ?_
      refine S_iload_n dL_law_1555 rfl 3 rfl (pc' := 1556) rfl ?_
      refine S_iconst dL_law_1556 (v := 1) rfl (pc' := 1557) rfl ?_
      refine S_iadd dL_law_1557 (pc' := 1558) rfl ?_
      refine S_sld dL_law_1558 (pc' := 1559) rfl (fun x1558 => ?_)
      refine S_aload_n dL_law_1559 rfl 0 rfl (pc' := 1560) rfl ?_
      refine S_iload_n dL_law_1560 rfl 3 rfl (pc' := 1561) rfl ?_
      refine S_iconst dL_law_1561 (v := 2) rfl (pc' := 1562) rfl ?_
      refine S_iadd dL_law_1562 (pc' := 1563) rfl ?_
      refine S_sld dL_law_1563 (pc' := 1564) rfl (fun x1563 => ?_)
      refine S_aload_n dL_law_1564 rfl 0 rfl (pc' := 1565) rfl ?_
      refine S_iload_n dL_law_1565 rfl 3 rfl (pc' := 1566) rfl ?_
      refine S_iconst dL_law_1566 (v := 3) rfl (pc' := 1567) rfl ?_
      refine S_iadd dL_law_1567 (pc' := 1568) rfl ?_
      refine S_sld dL_law_1568 (pc' := 1569) rfl (fun x1568 => ?_)
      refine S_invi ml_L_175 mi_X5_griefs (ci := 5) ⟨_, rfl, rfl⟩ (by decide) dL_law_1569 [.int x1558, .int x1563, .int x1568] rfl (fun v h2 q => c_X5_griefs Z l _ _ _ _ _ q) ⟨Nat.le_of_ble_eq_true rfl, Nat.le_of_ble_eq_true rfl⟩ (rest := []) (Nat.le_of_ble_eq_true rfl) rfl (pc' := 1572) rfl (fun x1569 h1569 => ?_)
      refine S_aload_n dL_law_1572 rfl 2 rfl (pc' := 1573) rfl ?_
      refine S_aload_n dL_law_1573 rfl 0 rfl (pc' := 1574) rfl ?_
      refine S_iload_n dL_law_1574 rfl 3 rfl (pc' := 1575) rfl ?_
      refine S_iconst dL_law_1575 (v := 1) rfl (pc' := 1576) rfl ?_
      refine S_iadd dL_law_1576 (pc' := 1577) rfl ?_
      refine S_sld dL_law_1577 (pc' := 1578) rfl (fun x1577 => ?_)
      refine S_aload_n dL_law_1578 rfl 0 rfl (pc' := 1579) rfl ?_
      refine S_iload_n dL_law_1579 rfl 3 rfl (pc' := 1580) rfl ?_
      refine S_iconst dL_law_1580 (v := 2) rfl (pc' := 1581) rfl ?_
      refine S_iadd dL_law_1581 (pc' := 1582) rfl ?_
      refine S_sld dL_law_1582 (pc' := 1583) rfl (fun x1582 => ?_)
      refine S_aload_n dL_law_1583 rfl 0 rfl (pc' := 1584) rfl ?_
      refine S_iload_n dL_law_1584 rfl 3 rfl (pc' := 1585) rfl ?_
      refine S_iconst dL_law_1585 (v := 3) rfl (pc' := 1586) rfl ?_
      refine S_iadd dL_law_1586 (pc' := 1587) rfl ?_
      refine S_sld dL_law_1587 (pc' := 1588) rfl (fun x1587 => ?_)
      refine S_invi ml_L_178 mi_X6_griefs (ci := 6) ⟨_, rfl, rfl⟩ (by decide) dL_law_1588 [.int x1577, .int x1582, .int x1587] rfl (fun v h2 q => c_X6_griefs Z l _ _ _ _ _ q) ⟨Nat.le_of_ble_eq_true rfl, Nat.le_of_ble_eq_true rfl⟩ (rest := [.int x1569]) (Nat.le_of_ble_eq_true rfl) rfl (pc' := 1591) rfl (fun x1588 h1588 => ?_)
      refine S_icmp_eq dL_law_1591 1974 rfl (pc' := 1594) rfl (fun g1591 => ?_) (fun g1591 => ?_)
      · refine S_iinc dL_law_1974 (q := 3) rfl (v := b3 + 6) rfl (by decide) (lo' := [(3, .int (b3 + 6)), (0, .ref (zsc Z)), (1, .ref (zb Z + a1)), (2, .ref (zb Z + a2))]) rfl (pc' := 1977) rfl ?_
        refine S_goto dL_law_1977 18 rfl ?_
        refine Sim.sub [1, 2, 3, 0] rfl ?_
        exact hF _ _
      · refine S_iconst dL_law_1594 (v := 0) rfl (pc' := 1595) rfl ?_
        exact hret 1595 [(0, .ref (zsc Z)), (1, .ref (zb Z + a1)), (2, .ref (zb Z + a2)), (3, .int b3)] 0 h1588 dL_law_1595
    refine Sim.ite (fun g33_39 => ?_) (fun g33_39 => ?_)
    · refine S_tabIn dL_law_33 g33_39 39 rfl (by decide) (off := 1563) rfl 1596 rfl ?_
      refine S_aload_n dL_law_1596 rfl 1 rfl (pc' := 1597) rfl ?_
      refine S_aload_n dL_law_1597 rfl 0 rfl (pc' := 1598) rfl ?_
      refine S_iload_n dL_law_1598 rfl 3 rfl (pc' := 1599) rfl ?_
      refine S_iconst dL_law_1599 (v := 1) rfl (pc' := 1600) rfl ?_
      refine S_iadd dL_law_1600 (pc' := 1601) rfl ?_
      refine S_sld dL_law_1601 (pc' := 1602) rfl (fun x1601 => ?_)
      refine S_invi ml_L_179 mi_X5_songs (ci := 5) ⟨_, rfl, rfl⟩ (by decide) dL_law_1602 [.int x1601] rfl (fun v h2 q => c_X5_songs Z l _ _ _ q) ⟨Nat.le_of_ble_eq_true rfl, Nat.le_of_ble_eq_true rfl⟩ (rest := []) (Nat.le_of_ble_eq_true rfl) rfl (pc' := 1605) rfl (fun x1602 h1602 => ?_)
      refine S_aload_n dL_law_1605 rfl 2 rfl (pc' := 1606) rfl ?_
      refine S_aload_n dL_law_1606 rfl 0 rfl (pc' := 1607) rfl ?_
      refine S_iload_n dL_law_1607 rfl 3 rfl (pc' := 1608) rfl ?_
      refine S_iconst dL_law_1608 (v := 1) rfl (pc' := 1609) rfl ?_
      refine S_iadd dL_law_1609 (pc' := 1610) rfl ?_
      refine S_sld dL_law_1610 (pc' := 1611) rfl (fun x1610 => ?_)
      refine S_invi ml_L_182 mi_X6_songs (ci := 6) ⟨_, rfl, rfl⟩ (by decide) dL_law_1611 [.int x1610] rfl (fun v h2 q => c_X6_songs Z l _ _ _ q) ⟨Nat.le_of_ble_eq_true rfl, Nat.le_of_ble_eq_true rfl⟩ (rest := [.int x1602]) (Nat.le_of_ble_eq_true rfl) rfl (pc' := 1614) rfl (fun x1611 h1611 => ?_)
      refine S_icmp_eq dL_law_1614 1974 rfl (pc' := 1617) rfl (fun g1614 => ?_) (fun g1614 => ?_)
      · refine S_iinc dL_law_1974 (q := 3) rfl (v := b3 + 6) rfl (by decide) (lo' := [(3, .int (b3 + 6)), (0, .ref (zsc Z)), (1, .ref (zb Z + a1)), (2, .ref (zb Z + a2))]) rfl (pc' := 1977) rfl ?_
        refine S_goto dL_law_1977 18 rfl ?_
        refine Sim.sub [1, 2, 3, 0] rfl ?_
        exact hF _ _
      · refine S_iconst dL_law_1617 (v := 0) rfl (pc' := 1618) rfl ?_
        exact hret 1618 [(0, .ref (zsc Z)), (1, .ref (zb Z + a1)), (2, .ref (zb Z + a2)), (3, .int b3)] 0 h1611 dL_law_1618
    refine Sim.ite (fun g33_40 => ?_) (fun g33_40 => ?_)
    · refine S_tabIn dL_law_33 g33_40 40 rfl (by decide) (off := 1586) rfl 1619 rfl ?_
      refine S_aload_n dL_law_1619 rfl 1 rfl (pc' := 1620) rfl ?_
      refine S_aload_n dL_law_1620 rfl 0 rfl (pc' := 1621) rfl ?_
      refine S_iload_n dL_law_1621 rfl 3 rfl (pc' := 1622) rfl ?_
      refine S_iconst dL_law_1622 (v := 1) rfl (pc' := 1623) rfl ?_
      refine S_iadd dL_law_1623 (pc' := 1624) rfl ?_
      refine S_sld dL_law_1624 (pc' := 1625) rfl (fun x1624 => ?_)
      refine S_invi ml_L_183 mi_X5_people (ci := 5) ⟨_, rfl, rfl⟩ (by decide) dL_law_1625 [.int x1624] rfl (fun v h2 q => c_X5_people Z l _ _ _ q) ⟨Nat.le_of_ble_eq_true rfl, Nat.le_of_ble_eq_true rfl⟩ (rest := []) (Nat.le_of_ble_eq_true rfl) rfl (pc' := 1628) rfl (fun x1625 h1625 => ?_)
      refine S_aload_n dL_law_1628 rfl 2 rfl (pc' := 1629) rfl ?_
      refine S_aload_n dL_law_1629 rfl 0 rfl (pc' := 1630) rfl ?_
      refine S_iload_n dL_law_1630 rfl 3 rfl (pc' := 1631) rfl ?_
      refine S_iconst dL_law_1631 (v := 1) rfl (pc' := 1632) rfl ?_
      refine S_iadd dL_law_1632 (pc' := 1633) rfl ?_
      refine S_sld dL_law_1633 (pc' := 1634) rfl (fun x1633 => ?_)
      refine S_invi ml_L_186 mi_X6_people (ci := 6) ⟨_, rfl, rfl⟩ (by decide) dL_law_1634 [.int x1633] rfl (fun v h2 q => c_X6_people Z l _ _ _ q) ⟨Nat.le_of_ble_eq_true rfl, Nat.le_of_ble_eq_true rfl⟩ (rest := [.int x1625]) (Nat.le_of_ble_eq_true rfl) rfl (pc' := 1637) rfl (fun x1634 h1634 => ?_)
      refine S_icmp_eq dL_law_1637 1974 rfl (pc' := 1640) rfl (fun g1637 => ?_) (fun g1637 => ?_)
      · refine S_iinc dL_law_1974 (q := 3) rfl (v := b3 + 6) rfl (by decide) (lo' := [(3, .int (b3 + 6)), (0, .ref (zsc Z)), (1, .ref (zb Z + a1)), (2, .ref (zb Z + a2))]) rfl (pc' := 1977) rfl ?_
        refine S_goto dL_law_1977 18 rfl ?_
        refine Sim.sub [1, 2, 3, 0] rfl ?_
        exact hF _ _
      · refine S_iconst dL_law_1640 (v := 0) rfl (pc' := 1641) rfl ?_
        exact hret 1641 [(0, .ref (zsc Z)), (1, .ref (zb Z + a1)), (2, .ref (zb Z + a2)), (3, .int b3)] 0 h1634 dL_law_1641
    refine Sim.ite (fun g33_41 => ?_) (fun g33_41 => ?_)
    · refine S_tabIn dL_law_33 g33_41 41 rfl (by decide) (off := 1609) rfl 1642 rfl ?_
      refine S_aload_n dL_law_1642 rfl 1 rfl (pc' := 1643) rfl ?_
      refine S_aload_n dL_law_1643 rfl 0 rfl (pc' := 1644) rfl ?_
      refine S_iload_n dL_law_1644 rfl 3 rfl (pc' := 1645) rfl ?_
      refine S_iconst dL_law_1645 (v := 1) rfl (pc' := 1646) rfl ?_
      refine S_iadd dL_law_1646 (pc' := 1647) rfl ?_
      refine S_sld dL_law_1647 (pc' := 1648) rfl (fun x1647 => ?_)
      refine S_aload_n dL_law_1648 rfl 0 rfl (pc' := 1649) rfl ?_
      refine S_iload_n dL_law_1649 rfl 3 rfl (pc' := 1650) rfl ?_
      refine S_iconst dL_law_1650 (v := 2) rfl (pc' := 1651) rfl ?_
      refine S_iadd dL_law_1651 (pc' := 1652) rfl ?_
      refine S_sld dL_law_1652 (pc' := 1653) rfl (fun x1652 => ?_)
      refine S_invi ml_L_187 mi_X5_both (ci := 5) ⟨_, rfl, rfl⟩ (by decide) dL_law_1653 [.int x1647, .int x1652] rfl (fun v h2 q => c_X5_both Z l _ _ _ _ q) ⟨Nat.le_of_ble_eq_true rfl, Nat.le_of_ble_eq_true rfl⟩ (rest := []) (Nat.le_of_ble_eq_true rfl) rfl (pc' := 1656) rfl (fun x1653 h1653 => ?_)
      refine S_aload_n dL_law_1656 rfl 2 rfl (pc' := 1657) rfl ?_
      refine S_aload_n dL_law_1657 rfl 0 rfl (pc' := 1658) rfl ?_
      refine S_iload_n dL_law_1658 rfl 3 rfl (pc' := 1659) rfl ?_
      refine S_iconst dL_law_1659 (v := 1) rfl (pc' := 1660) rfl ?_
      refine S_iadd dL_law_1660 (pc' := 1661) rfl ?_
      refine S_sld dL_law_1661 (pc' := 1662) rfl (fun x1661 => ?_)
      refine S_aload_n dL_law_1662 rfl 0 rfl (pc' := 1663) rfl ?_
      refine S_iload_n dL_law_1663 rfl 3 rfl (pc' := 1664) rfl ?_
      refine S_iconst dL_law_1664 (v := 2) rfl (pc' := 1665) rfl ?_
      refine S_iadd dL_law_1665 (pc' := 1666) rfl ?_
      refine S_sld dL_law_1666 (pc' := 1667) rfl (fun x1666 => ?_)
      refine S_invi ml_L_190 mi_X6_both (ci := 6) ⟨_, rfl, rfl⟩ (by decide) dL_law_1667 [.int x1661, .int x1666] rfl (fun v h2 q => c_X6_both Z l _ _ _ _ q) ⟨Nat.le_of_ble_eq_true rfl, Nat.le_of_ble_eq_true rfl⟩ (rest := [.int x1653]) (Nat.le_of_ble_eq_true rfl) rfl (pc' := 1670) rfl (fun x1667 h1667 => ?_)
      refine S_icmp_eq dL_law_1670 1974 rfl (pc' := 1673) rfl (fun g1670 => ?_) (fun g1670 => ?_)
      · refine S_iinc dL_law_1974 (q := 3) rfl (v := b3 + 6) rfl (by decide) (lo' := [(3, .int (b3 + 6)), (0, .ref (zsc Z)), (1, .ref (zb Z + a1)), (2, .ref (zb Z + a2))]) rfl (pc' := 1977) rfl ?_
        refine S_goto dL_law_1977 18 rfl ?_
        refine Sim.sub [1, 2, 3, 0] rfl ?_
        exact hF _ _
      · refine S_iconst dL_law_1673 (v := 0) rfl (pc' := 1674) rfl ?_
        exact hret 1674 [(0, .ref (zsc Z)), (1, .ref (zb Z + a1)), (2, .ref (zb Z + a2)), (3, .int b3)] 0 h1667 dL_law_1674
    refine Sim.ite (fun g33_42 => ?_) (fun g33_42 => ?_)
    · refine S_tabIn dL_law_33 g33_42 42 rfl (by decide) (off := 1642) rfl 1675 rfl ?_
      refine S_aload_n dL_law_1675 rfl 1 rfl (pc' := 1676) rfl ?_
      refine S_aload_n dL_law_1676 rfl 0 rfl (pc' := 1677) rfl ?_
      refine S_iload_n dL_law_1677 rfl 3 rfl (pc' := 1678) rfl ?_
      refine S_iconst dL_law_1678 (v := 1) rfl (pc' := 1679) rfl ?_
      refine S_iadd dL_law_1679 (pc' := 1680) rfl ?_
      refine S_sld dL_law_1680 (pc' := 1681) rfl (fun x1680 => ?_)
      refine S_invi ml_L_191 mi_X5_most (ci := 5) ⟨_, rfl, rfl⟩ (by decide) dL_law_1681 [.int x1680] rfl (fun v h2 q => c_X5_most Z l _ _ _ q) ⟨Nat.le_of_ble_eq_true rfl, Nat.le_of_ble_eq_true rfl⟩ (rest := []) (Nat.le_of_ble_eq_true rfl) rfl (pc' := 1684) rfl (fun x1681 h1681 => ?_)
      refine S_aload_n dL_law_1684 rfl 2 rfl (pc' := 1685) rfl ?_
      refine S_aload_n dL_law_1685 rfl 0 rfl (pc' := 1686) rfl ?_
      refine S_iload_n dL_law_1686 rfl 3 rfl (pc' := 1687) rfl ?_
      refine S_iconst dL_law_1687 (v := 1) rfl (pc' := 1688) rfl ?_
      refine S_iadd dL_law_1688 (pc' := 1689) rfl ?_
      refine S_sld dL_law_1689 (pc' := 1690) rfl (fun x1689 => ?_)
      refine S_invi ml_L_194 mi_X6_most (ci := 6) ⟨_, rfl, rfl⟩ (by decide) dL_law_1690 [.int x1689] rfl (fun v h2 q => c_X6_most Z l _ _ _ q) ⟨Nat.le_of_ble_eq_true rfl, Nat.le_of_ble_eq_true rfl⟩ (rest := [.int x1681]) (Nat.le_of_ble_eq_true rfl) rfl (pc' := 1693) rfl (fun x1690 h1690 => ?_)
      refine S_icmp_eq dL_law_1693 1974 rfl (pc' := 1696) rfl (fun g1693 => ?_) (fun g1693 => ?_)
      · refine S_iinc dL_law_1974 (q := 3) rfl (v := b3 + 6) rfl (by decide) (lo' := [(3, .int (b3 + 6)), (0, .ref (zsc Z)), (1, .ref (zb Z + a1)), (2, .ref (zb Z + a2))]) rfl (pc' := 1977) rfl ?_
        refine S_goto dL_law_1977 18 rfl ?_
        refine Sim.sub [1, 2, 3, 0] rfl ?_
        exact hF _ _
      · refine S_iconst dL_law_1696 (v := 0) rfl (pc' := 1697) rfl ?_
        exact hret 1697 [(0, .ref (zsc Z)), (1, .ref (zb Z + a1)), (2, .ref (zb Z + a2)), (3, .int b3)] 0 h1690 dL_law_1697
    refine Sim.ite (fun g33_43 => ?_) (fun g33_43 => ?_)
    · refine S_tabIn dL_law_33 g33_43 43 rfl (by decide) (off := 1665) rfl 1698 rfl ?_
      refine S_aload_n dL_law_1698 rfl 1 rfl (pc' := 1699) rfl ?_
      refine S_aload_n dL_law_1699 rfl 0 rfl (pc' := 1700) rfl ?_
      refine S_iload_n dL_law_1700 rfl 3 rfl (pc' := 1701) rfl ?_
      refine S_iconst dL_law_1701 (v := 1) rfl (pc' := 1702) rfl ?_
      refine S_iadd dL_law_1702 (pc' := 1703) rfl ?_
      refine S_sld dL_law_1703 (pc' := 1704) rfl (fun x1703 => ?_)
      refine S_invi ml_L_195 mi_X5_table (ci := 5) ⟨_, rfl, rfl⟩ (by decide) dL_law_1704 [.int x1703] rfl (fun v h2 q => c_X5_table Z l _ _ _ q) ⟨Nat.le_of_ble_eq_true rfl, Nat.le_of_ble_eq_true rfl⟩ (rest := []) (Nat.le_of_ble_eq_true rfl) rfl (pc' := 1707) rfl (fun x1704 h1704 => ?_)
      refine S_aload_n dL_law_1707 rfl 2 rfl (pc' := 1708) rfl ?_
      refine S_aload_n dL_law_1708 rfl 0 rfl (pc' := 1709) rfl ?_
      refine S_iload_n dL_law_1709 rfl 3 rfl (pc' := 1710) rfl ?_
      refine S_iconst dL_law_1710 (v := 1) rfl (pc' := 1711) rfl ?_
      refine S_iadd dL_law_1711 (pc' := 1712) rfl ?_
      refine S_sld dL_law_1712 (pc' := 1713) rfl (fun x1712 => ?_)
      refine S_invi ml_L_198 mi_X6_table (ci := 6) ⟨_, rfl, rfl⟩ (by decide) dL_law_1713 [.int x1712] rfl (fun v h2 q => c_X6_table Z l _ _ _ q) ⟨Nat.le_of_ble_eq_true rfl, Nat.le_of_ble_eq_true rfl⟩ (rest := [.int x1704]) (Nat.le_of_ble_eq_true rfl) rfl (pc' := 1716) rfl (fun x1713 h1713 => ?_)
      refine S_icmp_eq dL_law_1716 1974 rfl (pc' := 1719) rfl (fun g1716 => ?_) (fun g1716 => ?_)
      · refine S_iinc dL_law_1974 (q := 3) rfl (v := b3 + 6) rfl (by decide) (lo' := [(3, .int (b3 + 6)), (0, .ref (zsc Z)), (1, .ref (zb Z + a1)), (2, .ref (zb Z + a2))]) rfl (pc' := 1977) rfl ?_
        refine S_goto dL_law_1977 18 rfl ?_
        refine Sim.sub [1, 2, 3, 0] rfl ?_
        exact hF _ _
      · refine S_iconst dL_law_1719 (v := 0) rfl (pc' := 1720) rfl ?_
        exact hret 1720 [(0, .ref (zsc Z)), (1, .ref (zb Z + a1)), (2, .ref (zb Z + a2)), (3, .int b3)] 0 h1713 dL_law_1720
    refine Sim.ite (fun g33_44 => ?_) (fun g33_44 => ?_)
    · refine S_tabIn dL_law_33 g33_44 44 rfl (by decide) (off := 1688) rfl 1721 rfl ?_
      refine S_aload_n dL_law_1721 rfl 1 rfl (pc' := 1722) rfl ?_
      refine S_aload_n dL_law_1722 rfl 0 rfl (pc' := 1723) rfl ?_
      refine S_iload_n dL_law_1723 rfl 3 rfl (pc' := 1724) rfl ?_
      refine S_iconst dL_law_1724 (v := 1) rfl (pc' := 1725) rfl ?_
      refine S_iadd dL_law_1725 (pc' := 1726) rfl ?_
      refine S_sld dL_law_1726 (pc' := 1727) rfl (fun x1726 => ?_)
      refine S_invi ml_L_199 mi_X5_weakest (ci := 5) ⟨_, rfl, rfl⟩ (by decide) dL_law_1727 [.int x1726] rfl (fun v h2 q => c_X5_weakest Z l _ _ _ q) ⟨Nat.le_of_ble_eq_true rfl, Nat.le_of_ble_eq_true rfl⟩ (rest := []) (Nat.le_of_ble_eq_true rfl) rfl (pc' := 1730) rfl (fun x1727 h1727 => ?_)
      refine S_aload_n dL_law_1730 rfl 2 rfl (pc' := 1731) rfl ?_
      refine S_aload_n dL_law_1731 rfl 0 rfl (pc' := 1732) rfl ?_
      refine S_iload_n dL_law_1732 rfl 3 rfl (pc' := 1733) rfl ?_
      refine S_iconst dL_law_1733 (v := 1) rfl (pc' := 1734) rfl ?_
      refine S_iadd dL_law_1734 (pc' := 1735) rfl ?_
      refine S_sld dL_law_1735 (pc' := 1736) rfl (fun x1735 => ?_)
      refine S_invi ml_L_202 mi_X6_weakest (ci := 6) ⟨_, rfl, rfl⟩ (by decide) dL_law_1736 [.int x1735] rfl (fun v h2 q => c_X6_weakest Z l _ _ _ q) ⟨Nat.le_of_ble_eq_true rfl, Nat.le_of_ble_eq_true rfl⟩ (rest := [.int x1727]) (Nat.le_of_ble_eq_true rfl) rfl (pc' := 1739) rfl (fun x1736 h1736 => ?_)
      refine S_icmp_eq dL_law_1739 1974 rfl (pc' := 1742) rfl (fun g1739 => ?_) (fun g1739 => ?_)
      · refine S_iinc dL_law_1974 (q := 3) rfl (v := b3 + 6) rfl (by decide) (lo' := [(3, .int (b3 + 6)), (0, .ref (zsc Z)), (1, .ref (zb Z + a1)), (2, .ref (zb Z + a2))]) rfl (pc' := 1977) rfl ?_
        refine S_goto dL_law_1977 18 rfl ?_
        refine Sim.sub [1, 2, 3, 0] rfl ?_
        exact hF _ _
      · refine S_iconst dL_law_1742 (v := 0) rfl (pc' := 1743) rfl ?_
        exact hret 1743 [(0, .ref (zsc Z)), (1, .ref (zb Z + a1)), (2, .ref (zb Z + a2)), (3, .int b3)] 0 h1736 dL_law_1743
    refine Sim.ite (fun g33_45 => ?_) (fun g33_45 => ?_)
    · refine S_tabIn dL_law_33 g33_45 45 rfl (by decide) (off := 1711) rfl 1744 rfl ?_
      refine S_aload_n dL_law_1744 rfl 1 rfl (pc' := 1745) rfl ?_
      refine S_aload_n dL_law_1745 rfl 0 rfl (pc' := 1746) rfl ?_
      refine S_iload_n dL_law_1746 rfl 3 rfl (pc' := 1747) rfl ?_
      refine S_iconst dL_law_1747 (v := 1) rfl (pc' := 1748) rfl ?_
      refine S_iadd dL_law_1748 (pc' := 1749) rfl ?_
      refine S_sld dL_law_1749 (pc' := 1750) rfl (fun x1749 => ?_)
      refine S_aload_n dL_law_1750 rfl 0 rfl (pc' := 1751) rfl ?_
      refine S_iload_n dL_law_1751 rfl 3 rfl (pc' := 1752) rfl ?_
      refine S_iconst dL_law_1752 (v := 2) rfl (pc' := 1753) rfl ?_
      refine S_iadd dL_law_1753 (pc' := 1754) rfl ?_
      refine S_sld dL_law_1754 (pc' := 1755) rfl (fun x1754 => ?_)
      refine S_invi ml_L_203 mi_X5_forgets (ci := 5) ⟨_, rfl, rfl⟩ (by decide) dL_law_1755 [.int x1749, .int x1754] rfl (fun v h2 q => c_X5_forgets Z l _ _ _ _ q) ⟨Nat.le_of_ble_eq_true rfl, Nat.le_of_ble_eq_true rfl⟩ (rest := []) (Nat.le_of_ble_eq_true rfl) rfl (pc' := 1758) rfl (fun x1755 h1755 => ?_)
      refine S_aload_n dL_law_1758 rfl 2 rfl (pc' := 1759) rfl ?_
      refine S_aload_n dL_law_1759 rfl 0 rfl (pc' := 1760) rfl ?_
      refine S_iload_n dL_law_1760 rfl 3 rfl (pc' := 1761) rfl ?_
      refine S_iconst dL_law_1761 (v := 1) rfl (pc' := 1762) rfl ?_
      refine S_iadd dL_law_1762 (pc' := 1763) rfl ?_
      refine S_sld dL_law_1763 (pc' := 1764) rfl (fun x1763 => ?_)
      refine S_aload_n dL_law_1764 rfl 0 rfl (pc' := 1765) rfl ?_
      refine S_iload_n dL_law_1765 rfl 3 rfl (pc' := 1766) rfl ?_
      refine S_iconst dL_law_1766 (v := 2) rfl (pc' := 1767) rfl ?_
      refine S_iadd dL_law_1767 (pc' := 1768) rfl ?_
      refine S_sld dL_law_1768 (pc' := 1769) rfl (fun x1768 => ?_)
      refine S_invi ml_L_206 mi_X6_forgets (ci := 6) ⟨_, rfl, rfl⟩ (by decide) dL_law_1769 [.int x1763, .int x1768] rfl (fun v h2 q => c_X6_forgets Z l _ _ _ _ q) ⟨Nat.le_of_ble_eq_true rfl, Nat.le_of_ble_eq_true rfl⟩ (rest := [.int x1755]) (Nat.le_of_ble_eq_true rfl) rfl (pc' := 1772) rfl (fun x1769 h1769 => ?_)
      refine S_icmp_eq dL_law_1772 1974 rfl (pc' := 1775) rfl (fun g1772 => ?_) (fun g1772 => ?_)
      · refine S_iinc dL_law_1974 (q := 3) rfl (v := b3 + 6) rfl (by decide) (lo' := [(3, .int (b3 + 6)), (0, .ref (zsc Z)), (1, .ref (zb Z + a1)), (2, .ref (zb Z + a2))]) rfl (pc' := 1977) rfl ?_
        refine S_goto dL_law_1977 18 rfl ?_
        refine Sim.sub [1, 2, 3, 0] rfl ?_
        exact hF _ _
      · refine S_iconst dL_law_1775 (v := 0) rfl (pc' := 1776) rfl ?_
        exact hret 1776 [(0, .ref (zsc Z)), (1, .ref (zb Z + a1)), (2, .ref (zb Z + a2)), (3, .int b3)] 0 h1769 dL_law_1776
    refine Sim.ite (fun g33_46 => ?_) (fun g33_46 => ?_)
    · refine S_tabIn dL_law_33 g33_46 46 rfl (by decide) (off := 1744) rfl 1777 rfl ?_
      refine S_aload_n dL_law_1777 rfl 1 rfl (pc' := 1778) rfl ?_
      refine S_aload_n dL_law_1778 rfl 0 rfl (pc' := 1779) rfl ?_
      refine S_iload_n dL_law_1779 rfl 3 rfl (pc' := 1780) rfl ?_
      refine S_iconst dL_law_1780 (v := 1) rfl (pc' := 1781) rfl ?_
      refine S_iadd dL_law_1781 (pc' := 1782) rfl ?_
      refine S_sld dL_law_1782 (pc' := 1783) rfl (fun x1782 => ?_)
      refine S_invi ml_L_207 mi_X5_ofKind (ci := 5) ⟨_, rfl, rfl⟩ (by decide) dL_law_1783 [.int x1782] rfl (fun v h2 q => c_X5_ofKind Z l _ _ _ q) ⟨Nat.le_of_ble_eq_true rfl, Nat.le_of_ble_eq_true rfl⟩ (rest := []) (Nat.le_of_ble_eq_true rfl) rfl (pc' := 1786) rfl (fun x1783 h1783 => ?_)
      refine S_aload_n dL_law_1786 rfl 2 rfl (pc' := 1787) rfl ?_
      refine S_aload_n dL_law_1787 rfl 0 rfl (pc' := 1788) rfl ?_
      refine S_iload_n dL_law_1788 rfl 3 rfl (pc' := 1789) rfl ?_
      refine S_iconst dL_law_1789 (v := 1) rfl (pc' := 1790) rfl ?_
      refine S_iadd dL_law_1790 (pc' := 1791) rfl ?_
      refine S_sld dL_law_1791 (pc' := 1792) rfl (fun x1791 => ?_)
      refine S_invi ml_L_210 mi_X6_ofKind (ci := 6) ⟨_, rfl, rfl⟩ (by decide) dL_law_1792 [.int x1791] rfl (fun v h2 q => c_X6_ofKind Z l _ _ _ q) ⟨Nat.le_of_ble_eq_true rfl, Nat.le_of_ble_eq_true rfl⟩ (rest := [.int x1783]) (Nat.le_of_ble_eq_true rfl) rfl (pc' := 1795) rfl (fun x1792 h1792 => ?_)
      refine S_icmp_eq dL_law_1795 1974 rfl (pc' := 1798) rfl (fun g1795 => ?_) (fun g1795 => ?_)
      · refine S_iinc dL_law_1974 (q := 3) rfl (v := b3 + 6) rfl (by decide) (lo' := [(3, .int (b3 + 6)), (0, .ref (zsc Z)), (1, .ref (zb Z + a1)), (2, .ref (zb Z + a2))]) rfl (pc' := 1977) rfl ?_
        refine S_goto dL_law_1977 18 rfl ?_
        refine Sim.sub [1, 2, 3, 0] rfl ?_
        exact hF _ _
      · refine S_iconst dL_law_1798 (v := 0) rfl (pc' := 1799) rfl ?_
        exact hret 1799 [(0, .ref (zsc Z)), (1, .ref (zb Z + a1)), (2, .ref (zb Z + a2)), (3, .int b3)] 0 h1792 dL_law_1799
    refine Sim.ite (fun g33_47 => ?_) (fun g33_47 => ?_)
    · refine S_tabIn dL_law_33 g33_47 47 rfl (by decide) (off := 1767) rfl 1800 rfl ?_
      refine S_aload_n dL_law_1800 rfl 1 rfl (pc' := 1801) rfl ?_
      refine S_aload_n dL_law_1801 rfl 0 rfl (pc' := 1802) rfl ?_
      refine S_iload_n dL_law_1802 rfl 3 rfl (pc' := 1803) rfl ?_
      refine S_iconst dL_law_1803 (v := 1) rfl (pc' := 1804) rfl ?_
      refine S_iadd dL_law_1804 (pc' := 1805) rfl ?_
      refine S_sld dL_law_1805 (pc' := 1806) rfl (fun x1805 => ?_)
      refine S_aload_n dL_law_1806 rfl 0 rfl (pc' := 1807) rfl ?_
      refine S_iload_n dL_law_1807 rfl 3 rfl (pc' := 1808) rfl ?_
      refine S_iconst dL_law_1808 (v := 2) rfl (pc' := 1809) rfl ?_
      refine S_iadd dL_law_1809 (pc' := 1810) rfl ?_
      refine S_sld dL_law_1810 (pc' := 1811) rfl (fun x1810 => ?_)
      refine S_invi ml_L_211 mi_X5_judge (ci := 5) ⟨_, rfl, rfl⟩ (by decide) dL_law_1811 [.int x1805, .int x1810] rfl (fun v h2 q => c_X5_judge Z l _ _ _ _ q) ⟨Nat.le_of_ble_eq_true rfl, Nat.le_of_ble_eq_true rfl⟩ (rest := []) (Nat.le_of_ble_eq_true rfl) rfl (pc' := 1814) rfl (fun x1811 h1811 => ?_)
      refine S_aload_n dL_law_1814 rfl 2 rfl (pc' := 1815) rfl ?_
      refine S_aload_n dL_law_1815 rfl 0 rfl (pc' := 1816) rfl ?_
      refine S_iload_n dL_law_1816 rfl 3 rfl (pc' := 1817) rfl ?_
      refine S_iconst dL_law_1817 (v := 1) rfl (pc' := 1818) rfl ?_
      refine S_iadd dL_law_1818 (pc' := 1819) rfl ?_
      refine S_sld dL_law_1819 (pc' := 1820) rfl (fun x1819 => ?_)
      refine S_aload_n dL_law_1820 rfl 0 rfl (pc' := 1821) rfl ?_
      refine S_iload_n dL_law_1821 rfl 3 rfl (pc' := 1822) rfl ?_
      refine S_iconst dL_law_1822 (v := 2) rfl (pc' := 1823) rfl ?_
      refine S_iadd dL_law_1823 (pc' := 1824) rfl ?_
      refine S_sld dL_law_1824 (pc' := 1825) rfl (fun x1824 => ?_)
      refine S_invi ml_L_214 mi_X6_judge (ci := 6) ⟨_, rfl, rfl⟩ (by decide) dL_law_1825 [.int x1819, .int x1824] rfl (fun v h2 q => c_X6_judge Z l _ _ _ _ q) ⟨Nat.le_of_ble_eq_true rfl, Nat.le_of_ble_eq_true rfl⟩ (rest := [.int x1811]) (Nat.le_of_ble_eq_true rfl) rfl (pc' := 1828) rfl (fun x1825 h1825 => ?_)
      refine S_icmp_eq dL_law_1828 1974 rfl (pc' := 1831) rfl (fun g1828 => ?_) (fun g1828 => ?_)
      · refine S_iinc dL_law_1974 (q := 3) rfl (v := b3 + 6) rfl (by decide) (lo' := [(3, .int (b3 + 6)), (0, .ref (zsc Z)), (1, .ref (zb Z + a1)), (2, .ref (zb Z + a2))]) rfl (pc' := 1977) rfl ?_
        refine S_goto dL_law_1977 18 rfl ?_
        refine Sim.sub [1, 2, 3, 0] rfl ?_
        exact hF _ _
      · refine S_iconst dL_law_1831 (v := 0) rfl (pc' := 1832) rfl ?_
        exact hret 1832 [(0, .ref (zsc Z)), (1, .ref (zb Z + a1)), (2, .ref (zb Z + a2)), (3, .int b3)] 0 h1825 dL_law_1832
    refine Sim.ite (fun g33_48 => ?_) (fun g33_48 => ?_)
    · refine S_tabIn dL_law_33 g33_48 48 rfl (by decide) (off := 1800) rfl 1833 rfl ?_
      refine S_aload_n dL_law_1833 rfl 1 rfl (pc' := 1834) rfl ?_
      refine S_invi ml_L_215 mi_X5_pass (ci := 5) ⟨_, rfl, rfl⟩ (by decide) dL_law_1834 [] rfl (fun v h2 q => c_X5_pass Z l _ _ q) ⟨Nat.le_of_ble_eq_true rfl, Nat.le_of_ble_eq_true rfl⟩ (rest := []) (Nat.le_of_ble_eq_true rfl) rfl (pc' := 1837) rfl (fun x1834 h1834 => ?_)
      refine S_aload_n dL_law_1837 rfl 2 rfl (pc' := 1838) rfl ?_
      refine S_invi ml_L_218 mi_X6_pass (ci := 6) ⟨_, rfl, rfl⟩ (by decide) dL_law_1838 [] rfl (fun v h2 q => c_X6_pass Z l _ _ q) ⟨Nat.le_of_ble_eq_true rfl, Nat.le_of_ble_eq_true rfl⟩ (rest := [.int x1834]) (Nat.le_of_ble_eq_true rfl) rfl (pc' := 1841) rfl (fun x1838 h1838 => ?_)
      refine S_icmp_eq dL_law_1841 1974 rfl (pc' := 1844) rfl (fun g1841 => ?_) (fun g1841 => ?_)
      · refine S_iinc dL_law_1974 (q := 3) rfl (v := b3 + 6) rfl (by decide) (lo' := [(3, .int (b3 + 6)), (0, .ref (zsc Z)), (1, .ref (zb Z + a1)), (2, .ref (zb Z + a2))]) rfl (pc' := 1977) rfl ?_
        refine S_goto dL_law_1977 18 rfl ?_
        refine Sim.sub [1, 2, 3, 0] rfl ?_
        exact hF _ _
      · refine S_iconst dL_law_1844 (v := 0) rfl (pc' := 1845) rfl ?_
        exact hret 1845 [(0, .ref (zsc Z)), (1, .ref (zb Z + a1)), (2, .ref (zb Z + a2)), (3, .int b3)] 0 h1838 dL_law_1845
    refine Sim.ite (fun g33_49 => ?_) (fun g33_49 => ?_)
    · refine S_tabIn dL_law_33 g33_49 49 rfl (by decide) (off := 1813) rfl 1846 rfl ?_
      refine S_aload_n dL_law_1846 rfl 1 rfl (pc' := 1847) rfl ?_
      refine S_aload_n dL_law_1847 rfl 0 rfl (pc' := 1848) rfl ?_
      refine S_iload_n dL_law_1848 rfl 3 rfl (pc' := 1849) rfl ?_
      refine S_iconst dL_law_1849 (v := 1) rfl (pc' := 1850) rfl ?_
      refine S_iadd dL_law_1850 (pc' := 1851) rfl ?_
      refine S_sld dL_law_1851 (pc' := 1852) rfl (fun x1851 => ?_)
      refine S_aload_n dL_law_1852 rfl 0 rfl (pc' := 1853) rfl ?_
      refine S_iload_n dL_law_1853 rfl 3 rfl (pc' := 1854) rfl ?_
      refine S_iconst dL_law_1854 (v := 2) rfl (pc' := 1855) rfl ?_
      refine S_iadd dL_law_1855 (pc' := 1856) rfl ?_
      refine S_sld dL_law_1856 (pc' := 1857) rfl (fun x1856 => ?_)
      refine S_invi ml_L_219 mi_X5_taught (ci := 5) ⟨_, rfl, rfl⟩ (by decide) dL_law_1857 [.int x1851, .int x1856] rfl (fun v h2 q => c_X5_taught Z l _ _ _ _ q) ⟨Nat.le_of_ble_eq_true rfl, Nat.le_of_ble_eq_true rfl⟩ (rest := []) (Nat.le_of_ble_eq_true rfl) rfl (pc' := 1860) rfl (fun x1857 h1857 => ?_)
      refine S_aload_n dL_law_1860 rfl 2 rfl (pc' := 1861) rfl ?_
      refine S_aload_n dL_law_1861 rfl 0 rfl (pc' := 1862) rfl ?_
      refine S_iload_n dL_law_1862 rfl 3 rfl (pc' := 1863) rfl ?_
      refine S_iconst dL_law_1863 (v := 1) rfl (pc' := 1864) rfl ?_
      refine S_iadd dL_law_1864 (pc' := 1865) rfl ?_
      refine S_sld dL_law_1865 (pc' := 1866) rfl (fun x1865 => ?_)
      refine S_aload_n dL_law_1866 rfl 0 rfl (pc' := 1867) rfl ?_
      refine S_iload_n dL_law_1867 rfl 3 rfl (pc' := 1868) rfl ?_
      refine S_iconst dL_law_1868 (v := 2) rfl (pc' := 1869) rfl ?_
      refine S_iadd dL_law_1869 (pc' := 1870) rfl ?_
      refine S_sld dL_law_1870 (pc' := 1871) rfl (fun x1870 => ?_)
      refine S_invi ml_L_222 mi_X6_taught (ci := 6) ⟨_, rfl, rfl⟩ (by decide) dL_law_1871 [.int x1865, .int x1870] rfl (fun v h2 q => c_X6_taught Z l _ _ _ _ q) ⟨Nat.le_of_ble_eq_true rfl, Nat.le_of_ble_eq_true rfl⟩ (rest := [.int x1857]) (Nat.le_of_ble_eq_true rfl) rfl (pc' := 1874) rfl (fun x1871 h1871 => ?_)
      refine S_icmp_eq dL_law_1874 1974 rfl (pc' := 1877) rfl (fun g1874 => ?_) (fun g1874 => ?_)
      · refine S_iinc dL_law_1974 (q := 3) rfl (v := b3 + 6) rfl (by decide) (lo' := [(3, .int (b3 + 6)), (0, .ref (zsc Z)), (1, .ref (zb Z + a1)), (2, .ref (zb Z + a2))]) rfl (pc' := 1977) rfl ?_
        refine S_goto dL_law_1977 18 rfl ?_
        refine Sim.sub [1, 2, 3, 0] rfl ?_
        exact hF _ _
      · refine S_iconst dL_law_1877 (v := 0) rfl (pc' := 1878) rfl ?_
        exact hret 1878 [(0, .ref (zsc Z)), (1, .ref (zb Z + a1)), (2, .ref (zb Z + a2)), (3, .int b3)] 0 h1871 dL_law_1878
    refine Sim.ite (fun g33_50 => ?_) (fun g33_50 => ?_)
    · refine S_tabIn dL_law_33 g33_50 50 rfl (by decide) (off := 1846) rfl 1879 rfl ?_
      refine S_aload_n dL_law_1879 rfl 1 rfl (pc' := 1880) rfl ?_
      refine S_aload_n dL_law_1880 rfl 0 rfl (pc' := 1881) rfl ?_
      refine S_iload_n dL_law_1881 rfl 3 rfl (pc' := 1882) rfl ?_
      refine S_iconst dL_law_1882 (v := 1) rfl (pc' := 1883) rfl ?_
      refine S_iadd dL_law_1883 (pc' := 1884) rfl ?_
      refine S_sld dL_law_1884 (pc' := 1885) rfl (fun x1884 => ?_)
      refine S_invi ml_L_223 mi_X5_drawn (ci := 5) ⟨_, rfl, rfl⟩ (by decide) dL_law_1885 [.int x1884] rfl (fun v h2 q => c_X5_drawn Z l _ _ _ q) ⟨Nat.le_of_ble_eq_true rfl, Nat.le_of_ble_eq_true rfl⟩ (rest := []) (Nat.le_of_ble_eq_true rfl) rfl (pc' := 1888) rfl (fun x1885 h1885 => ?_)
      refine S_aload_n dL_law_1888 rfl 2 rfl (pc' := 1889) rfl ?_
      refine S_aload_n dL_law_1889 rfl 0 rfl (pc' := 1890) rfl ?_
      refine S_iload_n dL_law_1890 rfl 3 rfl (pc' := 1891) rfl ?_
      refine S_iconst dL_law_1891 (v := 1) rfl (pc' := 1892) rfl ?_
      refine S_iadd dL_law_1892 (pc' := 1893) rfl ?_
      refine S_sld dL_law_1893 (pc' := 1894) rfl (fun x1893 => ?_)
      refine S_invi ml_L_226 mi_X6_drawn (ci := 6) ⟨_, rfl, rfl⟩ (by decide) dL_law_1894 [.int x1893] rfl (fun v h2 q => c_X6_drawn Z l _ _ _ q) ⟨Nat.le_of_ble_eq_true rfl, Nat.le_of_ble_eq_true rfl⟩ (rest := [.int x1885]) (Nat.le_of_ble_eq_true rfl) rfl (pc' := 1897) rfl (fun x1894 h1894 => ?_)
      refine S_icmp_eq dL_law_1897 1974 rfl (pc' := 1900) rfl (fun g1897 => ?_) (fun g1897 => ?_)
      · refine S_iinc dL_law_1974 (q := 3) rfl (v := b3 + 6) rfl (by decide) (lo' := [(3, .int (b3 + 6)), (0, .ref (zsc Z)), (1, .ref (zb Z + a1)), (2, .ref (zb Z + a2))]) rfl (pc' := 1977) rfl ?_
        refine S_goto dL_law_1977 18 rfl ?_
        refine Sim.sub [1, 2, 3, 0] rfl ?_
        exact hF _ _
      · refine S_iconst dL_law_1900 (v := 0) rfl (pc' := 1901) rfl ?_
        exact hret 1901 [(0, .ref (zsc Z)), (1, .ref (zb Z + a1)), (2, .ref (zb Z + a2)), (3, .int b3)] 0 h1894 dL_law_1901
    refine Sim.ite (fun g33_51 => ?_) (fun g33_51 => ?_)
    · refine S_tabIn dL_law_33 g33_51 51 rfl (by decide) (off := 1869) rfl 1902 rfl ?_
      refine S_aload_n dL_law_1902 rfl 1 rfl (pc' := 1903) rfl ?_
      refine S_aload_n dL_law_1903 rfl 0 rfl (pc' := 1904) rfl ?_
      refine S_iload_n dL_law_1904 rfl 3 rfl (pc' := 1905) rfl ?_
      refine S_iconst dL_law_1905 (v := 1) rfl (pc' := 1906) rfl ?_
      refine S_iadd dL_law_1906 (pc' := 1907) rfl ?_
      refine S_sld dL_law_1907 (pc' := 1908) rfl (fun x1907 => ?_)
      refine S_invi ml_L_227 mi_X5_seed (ci := 5) ⟨_, rfl, rfl⟩ (by decide) dL_law_1908 [.int x1907] rfl (fun v h2 q => c_X5_seed Z l _ _ _ q) ⟨Nat.le_of_ble_eq_true rfl, Nat.le_of_ble_eq_true rfl⟩ (rest := []) (Nat.le_of_ble_eq_true rfl) rfl (pc' := 1911) rfl (fun x1908 h1908 => ?_)
      refine S_aload_n dL_law_1911 rfl 2 rfl (pc' := 1912) rfl ?_
      refine S_aload_n dL_law_1912 rfl 0 rfl (pc' := 1913) rfl ?_
      refine S_iload_n dL_law_1913 rfl 3 rfl (pc' := 1914) rfl ?_
      refine S_iconst dL_law_1914 (v := 1) rfl (pc' := 1915) rfl ?_
      refine S_iadd dL_law_1915 (pc' := 1916) rfl ?_
      refine S_sld dL_law_1916 (pc' := 1917) rfl (fun x1916 => ?_)
      refine S_invi ml_L_230 mi_X6_seed (ci := 6) ⟨_, rfl, rfl⟩ (by decide) dL_law_1917 [.int x1916] rfl (fun v h2 q => c_X6_seed Z l _ _ _ q) ⟨Nat.le_of_ble_eq_true rfl, Nat.le_of_ble_eq_true rfl⟩ (rest := [.int x1908]) (Nat.le_of_ble_eq_true rfl) rfl (pc' := 1920) rfl (fun x1917 h1917 => ?_)
      refine S_icmp_eq dL_law_1920 1974 rfl (pc' := 1923) rfl (fun g1920 => ?_) (fun g1920 => ?_)
      · refine S_iinc dL_law_1974 (q := 3) rfl (v := b3 + 6) rfl (by decide) (lo' := [(3, .int (b3 + 6)), (0, .ref (zsc Z)), (1, .ref (zb Z + a1)), (2, .ref (zb Z + a2))]) rfl (pc' := 1977) rfl ?_
        refine S_goto dL_law_1977 18 rfl ?_
        refine Sim.sub [1, 2, 3, 0] rfl ?_
        exact hF _ _
      · refine S_iconst dL_law_1923 (v := 0) rfl (pc' := 1924) rfl ?_
        exact hret 1924 [(0, .ref (zsc Z)), (1, .ref (zb Z + a1)), (2, .ref (zb Z + a2)), (3, .int b3)] 0 h1917 dL_law_1924
    refine Sim.ite (fun g33_52 => ?_) (fun g33_52 => ?_)
    · refine S_tabIn dL_law_33 g33_52 52 rfl (by decide) (off := 1892) rfl 1925 rfl ?_
      refine S_aload_n dL_law_1925 rfl 1 rfl (pc' := 1926) rfl ?_
      refine S_invi ml_L_231 mi_X5_image (ci := 5) ⟨_, rfl, rfl⟩ (by decide) dL_law_1926 [] rfl (fun v h2 q => c_X5_image Z l _ _ q) ⟨Nat.le_of_ble_eq_true rfl, Nat.le_of_ble_eq_true rfl⟩ (rest := []) (Nat.le_of_ble_eq_true rfl) rfl (pc' := 1929) rfl (fun x1926 h1926 => ?_)
      refine S_aload_n dL_law_1929 rfl 2 rfl (pc' := 1930) rfl ?_
      refine S_invi ml_L_234 mi_X6_image (ci := 6) ⟨_, rfl, rfl⟩ (by decide) dL_law_1930 [] rfl (fun v h2 q => c_X6_image Z l _ _ q) ⟨Nat.le_of_ble_eq_true rfl, Nat.le_of_ble_eq_true rfl⟩ (rest := [.int x1926]) (Nat.le_of_ble_eq_true rfl) rfl (pc' := 1933) rfl (fun x1930 h1930 => ?_)
      refine S_icmp_eq dL_law_1933 1974 rfl (pc' := 1936) rfl (fun g1933 => ?_) (fun g1933 => ?_)
      · refine S_iinc dL_law_1974 (q := 3) rfl (v := b3 + 6) rfl (by decide) (lo' := [(3, .int (b3 + 6)), (0, .ref (zsc Z)), (1, .ref (zb Z + a1)), (2, .ref (zb Z + a2))]) rfl (pc' := 1977) rfl ?_
        refine S_goto dL_law_1977 18 rfl ?_
        refine Sim.sub [1, 2, 3, 0] rfl ?_
        exact hF _ _
      · refine S_iconst dL_law_1936 (v := 0) rfl (pc' := 1937) rfl ?_
        exact hret 1937 [(0, .ref (zsc Z)), (1, .ref (zb Z + a1)), (2, .ref (zb Z + a2)), (3, .int b3)] 0 h1930 dL_law_1937
    refine Sim.ite (fun g33_53 => ?_) (fun g33_53 => ?_)
    · refine S_tabIn dL_law_33 g33_53 53 rfl (by decide) (off := 1905) rfl 1938 rfl ?_
      refine S_aload_n dL_law_1938 rfl 1 rfl (pc' := 1939) rfl ?_
      refine S_invi ml_L_235 mi_X5_back (ci := 5) ⟨_, rfl, rfl⟩ (by decide) dL_law_1939 [] rfl (fun v h2 q => c_X5_back Z l _ _ q) ⟨Nat.le_of_ble_eq_true rfl, Nat.le_of_ble_eq_true rfl⟩ (rest := []) (Nat.le_of_ble_eq_true rfl) rfl (pc' := 1942) rfl (fun x1939 h1939 => ?_)
      refine S_aload_n dL_law_1942 rfl 2 rfl (pc' := 1943) rfl ?_
      refine S_invi ml_L_238 mi_X6_back (ci := 6) ⟨_, rfl, rfl⟩ (by decide) dL_law_1943 [] rfl (fun v h2 q => c_X6_back Z l _ _ q) ⟨Nat.le_of_ble_eq_true rfl, Nat.le_of_ble_eq_true rfl⟩ (rest := [.int x1939]) (Nat.le_of_ble_eq_true rfl) rfl (pc' := 1946) rfl (fun x1943 h1943 => ?_)
      refine S_icmp_eq dL_law_1946 1974 rfl (pc' := 1949) rfl (fun g1946 => ?_) (fun g1946 => ?_)
      · refine S_iinc dL_law_1974 (q := 3) rfl (v := b3 + 6) rfl (by decide) (lo' := [(3, .int (b3 + 6)), (0, .ref (zsc Z)), (1, .ref (zb Z + a1)), (2, .ref (zb Z + a2))]) rfl (pc' := 1977) rfl ?_
        refine S_goto dL_law_1977 18 rfl ?_
        refine Sim.sub [1, 2, 3, 0] rfl ?_
        exact hF _ _
      · refine S_iconst dL_law_1949 (v := 0) rfl (pc' := 1950) rfl ?_
        exact hret 1950 [(0, .ref (zsc Z)), (1, .ref (zb Z + a1)), (2, .ref (zb Z + a2)), (3, .int b3)] 0 h1943 dL_law_1950
    refine Sim.ite (fun g33_54 => ?_) (fun g33_54 => ?_)
    · refine S_tabIn dL_law_33 g33_54 54 rfl (by decide) (off := 1918) rfl 1951 rfl ?_
      refine S_aload_n dL_law_1951 rfl 1 rfl (pc' := 1952) rfl ?_
      refine S_aload_n dL_law_1952 rfl 0 rfl (pc' := 1953) rfl ?_
      refine S_iload_n dL_law_1953 rfl 3 rfl (pc' := 1954) rfl ?_
      refine S_iconst dL_law_1954 (v := 1) rfl (pc' := 1955) rfl ?_
      refine S_iadd dL_law_1955 (pc' := 1956) rfl ?_
      refine S_sld dL_law_1956 (pc' := 1957) rfl (fun x1956 => ?_)
      refine S_invi ml_L_239 mi_X5_status (ci := 5) ⟨_, rfl, rfl⟩ (by decide) dL_law_1957 [.int x1956] rfl (fun v h2 q => c_X5_status Z l _ _ _ q) ⟨Nat.le_of_ble_eq_true rfl, Nat.le_of_ble_eq_true rfl⟩ (rest := []) (Nat.le_of_ble_eq_true rfl) rfl (pc' := 1960) rfl (fun x1957 h1957 => ?_)
      refine S_aload_n dL_law_1960 rfl 2 rfl (pc' := 1961) rfl ?_
      refine S_aload_n dL_law_1961 rfl 0 rfl (pc' := 1962) rfl ?_
      refine S_iload_n dL_law_1962 rfl 3 rfl (pc' := 1963) rfl ?_
      refine S_iconst dL_law_1963 (v := 1) rfl (pc' := 1964) rfl ?_
      refine S_iadd dL_law_1964 (pc' := 1965) rfl ?_
      refine S_sld dL_law_1965 (pc' := 1966) rfl (fun x1965 => ?_)
      refine S_invi ml_L_242 mi_X6_status (ci := 6) ⟨_, rfl, rfl⟩ (by decide) dL_law_1966 [.int x1965] rfl (fun v h2 q => c_X6_status Z l _ _ _ q) ⟨Nat.le_of_ble_eq_true rfl, Nat.le_of_ble_eq_true rfl⟩ (rest := [.int x1957]) (Nat.le_of_ble_eq_true rfl) rfl (pc' := 1969) rfl (fun x1966 h1966 => ?_)
      refine S_icmp_eq dL_law_1969 1974 rfl (pc' := 1972) rfl (fun g1969 => ?_) (fun g1969 => ?_)
      · refine S_iinc dL_law_1974 (q := 3) rfl (v := b3 + 6) rfl (by decide) (lo' := [(3, .int (b3 + 6)), (0, .ref (zsc Z)), (1, .ref (zb Z + a1)), (2, .ref (zb Z + a2))]) rfl (pc' := 1977) rfl ?_
        refine S_goto dL_law_1977 18 rfl ?_
        refine Sim.sub [1, 2, 3, 0] rfl ?_
        exact hF _ _
      · refine S_iconst dL_law_1972 (v := 0) rfl (pc' := 1973) rfl ?_
        exact hret 1973 [(0, .ref (zsc Z)), (1, .ref (zb Z + a1)), (2, .ref (zb Z + a2)), (3, .int b3)] 0 h1966 dL_law_1973
    refine S_tabOut dL_law_33 (by
        have q0 := i32_ne g33_0
        have q1 := i32_ne g33_1
        have q2 := i32_ne g33_2
        have q3 := i32_ne g33_3
        have q4 := i32_ne g33_4
        have q5 := i32_ne g33_5
        have q6 := i32_ne g33_6
        have q7 := i32_ne g33_7
        have q8 := i32_ne g33_8
        have q9 := i32_ne g33_9
        have q10 := i32_ne g33_10
        have q11 := i32_ne g33_11
        have q12 := i32_ne g33_12
        have q13 := i32_ne g33_13
        have q14 := i32_ne g33_14
        have q15 := i32_ne g33_15
        have q16 := i32_ne g33_16
        have q17 := i32_ne g33_17
        have q18 := i32_ne g33_18
        have q19 := i32_ne g33_19
        have q20 := i32_ne g33_20
        have q21 := i32_ne g33_21
        have q22 := i32_ne g33_22
        have q23 := i32_ne g33_23
        have q24 := i32_ne g33_24
        have q25 := i32_ne g33_25
        have q26 := i32_ne g33_26
        have q27 := i32_ne g33_27
        have q28 := i32_ne g33_28
        have q29 := i32_ne g33_29
        have q30 := i32_ne g33_30
        have q31 := i32_ne g33_31
        have q32 := i32_ne g33_32
        have q33 := i32_ne g33_33
        have q34 := i32_ne g33_34
        have q35 := i32_ne g33_35
        have q36 := i32_ne g33_36
        have q37 := i32_ne g33_37
        have q38 := i32_ne g33_38
        have q39 := i32_ne g33_39
        have q40 := i32_ne g33_40
        have q41 := i32_ne g33_41
        have q42 := i32_ne g33_42
        have q43 := i32_ne g33_43
        have q44 := i32_ne g33_44
        have q45 := i32_ne g33_45
        have q46 := i32_ne g33_46
        have q47 := i32_ne g33_47
        have q48 := i32_ne g33_48
        have q49 := i32_ne g33_49
        have q50 := i32_ne g33_50
        have q51 := i32_ne g33_51
        have q52 := i32_ne g33_52
        have q53 := i32_ne g33_53
        have q54 := i32_ne g33_54
        simp only [show Int32.toInt 0 = 0 from rfl, show Int32.toInt 1 = 1 from rfl, show Int32.toInt 2 = 2 from rfl, show Int32.toInt 3 = 3 from rfl, show Int32.toInt 4 = 4 from rfl, show Int32.toInt 5 = 5 from rfl, show Int32.toInt 6 = 6 from rfl, show Int32.toInt 7 = 7 from rfl, show Int32.toInt 8 = 8 from rfl, show Int32.toInt 9 = 9 from rfl, show Int32.toInt 10 = 10 from rfl, show Int32.toInt 11 = 11 from rfl, show Int32.toInt 12 = 12 from rfl, show Int32.toInt 13 = 13 from rfl, show Int32.toInt 14 = 14 from rfl, show Int32.toInt 15 = 15 from rfl, show Int32.toInt 16 = 16 from rfl, show Int32.toInt 17 = 17 from rfl, show Int32.toInt 18 = 18 from rfl, show Int32.toInt 19 = 19 from rfl, show Int32.toInt 20 = 20 from rfl, show Int32.toInt 21 = 21 from rfl, show Int32.toInt 22 = 22 from rfl, show Int32.toInt 23 = 23 from rfl, show Int32.toInt 24 = 24 from rfl, show Int32.toInt 25 = 25 from rfl, show Int32.toInt 26 = 26 from rfl, show Int32.toInt 27 = 27 from rfl, show Int32.toInt 28 = 28 from rfl, show Int32.toInt 29 = 29 from rfl, show Int32.toInt 30 = 30 from rfl, show Int32.toInt 31 = 31 from rfl, show Int32.toInt 32 = 32 from rfl, show Int32.toInt 33 = 33 from rfl, show Int32.toInt 34 = 34 from rfl, show Int32.toInt 35 = 35 from rfl, show Int32.toInt 36 = 36 from rfl, show Int32.toInt 37 = 37 from rfl, show Int32.toInt 38 = 38 from rfl, show Int32.toInt 39 = 39 from rfl, show Int32.toInt 40 = 40 from rfl, show Int32.toInt 41 = 41 from rfl, show Int32.toInt 42 = 42 from rfl, show Int32.toInt 43 = 43 from rfl, show Int32.toInt 44 = 44 from rfl, show Int32.toInt 45 = 45 from rfl, show Int32.toInt 46 = 46 from rfl, show Int32.toInt 47 = 47 from rfl, show Int32.toInt 48 = 48 from rfl, show Int32.toInt 49 = 49 from rfl, show Int32.toInt 50 = 50 from rfl, show Int32.toInt 51 = 51 from rfl, show Int32.toInt 52 = 52 from rfl, show Int32.toInt 53 = 53 from rfl, show Int32.toInt 54 = 54 from rfl] at q0 q1 q2 q3 q4 q5 q6 q7 q8 q9 q10 q11 q12 q13 q14 q15 q16 q17 q18 q19 q20 q21 q22 q23 q24 q25 q26 q27 q28 q29 q30 q31 q32 q33 q34 q35 q36 q37 q38 q39 q40 q41 q42 q43 q44 q45 q46 q47 q48 q49 q50 q51 q52 q53 q54
        omega) 1974 rfl ?_
    refine S_iinc dL_law_1974 (q := 3) rfl (v := b3 + 6) rfl (by decide) (lo' := [(3, .int (b3 + 6)), (0, .ref (zsc Z)), (1, .ref (zb Z + a1)), (2, .ref (zb Z + a2))]) rfl (pc' := 1977) rfl ?_
    refine S_goto dL_law_1977 18 rfl ?_
    refine Sim.sub [1, 2, 3, 0] rfl ?_
    exact hF _ _
theorem lq_L_law_18 (Z : ZZ) (l : Launch) (a1 : Nat) (a2 : Nat) {args : Array Value} {h0 h1 : HP} {v0 : Int32} {QQ : State → List Frame → State → Prop} (hret : ∀ (pc : Nat) (lo : List (Nat × Value)) (v : Int32) (h : HP), decode cL_law pc = .ok (.ireturn, 1) → Sim Z l cL_law RL 4 12 436 (some .boolean) "law" args QQ h0 h1 v0 pc lo [.int v] h (some (v, h))) (K : HP → Option (Int32 × HP))
    (hK : ∀ (h : HP), Sim Z l cL_law RL 4 12 436 (some .boolean) "law" args QQ h0 h1 v0 1980 [] [] h (K h)) :
    ∀ (k : Nat) (b3 : Int32) (h : HP), Sim Z l cL_law RL 4 12 436 (some .boolean) "law" args QQ h0 h1 v0 18 [(0, .ref (zsc Z)), (1, .ref (zb Z + a1)), (2, .ref (zb Z + a2)), (3, .int b3)] [] h (lp_L_law_18 Z a1 a2 K k b3 h) := by
  intro k
  induction k with
  | zero => exact fun _ _ => Sim.none
  | succ k ih => exact lc_L_law_18 Z l a1 a2 hret K _ hK ih
set_option maxRecDepth 100000 in
set_option maxHeartbeats 4000000 in
theorem c_L_law (Z : ZZ) (l : Launch) {args : Array Value} {h0 h1 : HP} {v0 : Int32} {QQ : State → List Frame → State → Prop} (hret : ∀ (pc : Nat) (lo : List (Nat × Value)) (v : Int32) (h : HP), decode cL_law pc = .ok (.ireturn, 1) → Sim Z l cL_law RL 4 12 436 (some .boolean) "law" args QQ h0 h1 v0 pc lo [.int v] h (some (v, h))) (h : HP) : Sim Z l cL_law RL 4 12 436 (some .boolean) "law" args QQ h0 h1 v0 0 [(0, .ref (zsc Z))] [] h (f_L_law Z h) := by
  unfold f_L_law
  refine S_new nc_L_7 dL_law_0 (pc' := 3) rfl (fun x0 h0 => ?_)
  refine S_dup dL_law_3 rfl (pc' := 4) rfl ?_
  refine S_ctor ml_L_9 rfl mc_X5_init dL_law_4 [] rfl (fun v h2 q => c_X5_init Z l _ _ q) ⟨Nat.le_of_ble_eq_true rfl, Nat.le_of_ble_eq_true rfl⟩ (rest := [.ref (zb Z + x0)]) (Nat.le_of_ble_eq_true rfl) rfl (pc' := 7) rfl (fun _ h4 => ?_)
  refine S_astore_n dL_law_7 rfl (by decide) (lo' := [(1, .ref (zb Z + x0)), (0, .ref (zsc Z))]) rfl (pc' := 8) rfl ?_
  refine S_new nc_L_10 dL_law_8 (pc' := 11) rfl (fun x8 h8 => ?_)
  refine S_dup dL_law_11 rfl (pc' := 12) rfl ?_
  refine S_ctor ml_L_12 rfl mc_X6_init dL_law_12 [] rfl (fun v h2 q => c_X6_init Z l _ _ q) ⟨Nat.le_of_ble_eq_true rfl, Nat.le_of_ble_eq_true rfl⟩ (rest := [.ref (zb Z + x8)]) (Nat.le_of_ble_eq_true rfl) rfl (pc' := 15) rfl (fun _ h12 => ?_)
  refine S_astore_n dL_law_15 rfl (by decide) (lo' := [(2, .ref (zb Z + x8)), (1, .ref (zb Z + x0)), (0, .ref (zsc Z))]) rfl (pc' := 16) rfl ?_
  refine S_iconst dL_law_16 (v := 0) rfl (pc' := 17) rfl ?_
  refine S_istore_n dL_law_17 rfl (by decide) (lo' := [(3, .int 0), (2, .ref (zb Z + x8)), (1, .ref (zb Z + x0)), (0, .ref (zsc Z))]) rfl (pc' := 18) rfl ?_
  refine Sim.sub [3, 2, 1, 0] rfl ?_
  refine lq_L_law_18 Z l x0 x8 hret _ ?_ 1000 _ _
  intro h18_
  refine S_iconst dL_law_1980 (v := 1) rfl (pc' := 1981) rfl ?_
  exact hret 1981 [] 1 h18_ dL_law_1981
