set_option maxRecDepth 20000 in
theorem tL_law_b2428 {G : Gm} {x1 : Nat} {x2 : Nat} {x3 : Int32} {s : Hp} {o : Option Value × Hp} {w : (Int32 × Hp) ⊕ ((Hp) ⊕ (Hp))} (h : fL_law_b2428 (gN G) (gX G) (gK G) x1 x2 x3 s = some w) (hc : ∀ (q3 : Int32) (qs : Hp), w = .inl (q3, qs) → R G ML_law 18 [(0, .ref (gS G)), (1, .ref x1), (2, .ref x2), (3, .int q3)] [] qs o) (he0 : ∀ (qs : Hp), w = .inr (.inl qs) → R G ML_law 2434 [] [] qs o) (he1 : ∀ (qs : Hp), w = .inr (.inr qs) → ∀ t ∈ [353, 376, 389, 412, 445, 478, 511, 544, 577, 620, 633, 666, 709, 742, 765, 798, 831, 864, 877, 890, 923, 966, 989, 1042, 1095, 1158, 1191, 1224, 1258, 1291, 1324, 1367, 1390, 1413, 1436, 1469, 1502, 1535, 1568, 1601, 1634, 1697, 1760, 1783, 1806, 1829, 1852, 1895, 1908, 1931, 1974, 2017, 2070, 2145, 2178, 2201, 2224, 2247, 2290, 2363, 2426], R G ML_law t [] [] qs o) : R G ML_law 2428 [(0, .ref (gS G)), (1, .ref x1), (2, .ref x2), (3, .int x3)] [] s o := by
  unfold fL_law_b2428 at h
  refine R_iinc [(3, .int (x3 + iI 7)), (0, .ref (gS G)), (1, .ref x1), (2, .ref x2)] DL_law_2428 3 rfl (v := x3 + iI 7) (by rfl) (by decide) rfl ?_
  refine R_goto DL_law_2431 ?_
  refine R.sub (L' := [(0, .ref (gS G)), (1, .ref x1), (2, .ref x2), (3, .int (x3 + iI 7))]) [1, 2, 3, 0] rfl ?_
  cases h
  exact hc _ _ rfl
set_option maxRecDepth 20000 in
theorem tL_law_l18 {G : Gm} {x1 : Nat} {x2 : Nat} {o : Option Value × Hp} {a : Int32 × Hp} {w : (Int32 × Hp) ⊕ ((Hp) ⊕ (Hp))} (h : fL_law_l18 (gN G) (gX G) (gK G) x1 x2 a = some w) (hc : ∀ (q3 : Int32) (qs : Hp), w = .inl (q3, qs) → R G ML_law 18 [(0, .ref (gS G)), (1, .ref x1), (2, .ref x2), (3, .int q3)] [] qs o) (he0 : ∀ (qs : Hp), w = .inr (.inl qs) → R G ML_law 2434 [] [] qs o) (he1 : ∀ (qs : Hp), w = .inr (.inr qs) → ∀ t ∈ [353, 376, 389, 412, 445, 478, 511, 544, 577, 620, 633, 666, 709, 742, 765, 798, 831, 864, 877, 890, 923, 966, 989, 1042, 1095, 1158, 1191, 1224, 1258, 1291, 1324, 1367, 1390, 1413, 1436, 1469, 1502, 1535, 1568, 1601, 1634, 1697, 1760, 1783, 1806, 1829, 1852, 1895, 1908, 1931, 1974, 2017, 2070, 2145, 2178, 2201, 2224, 2247, 2290, 2363, 2426], R G ML_law t [] [] qs o) : R G ML_law 18 [(0, .ref (gS G)), (1, .ref x1), (2, .ref x2), (3, .int a.1)] [] a.2 o := by
  unfold fL_law_l18 at h
  refine R_iload DL_law_18 3 rfl ?_
  refine R_aload DL_law_19 0 rfl ?_
  refine R_xN DL_law_20 ?_
  refine R_constI DL_law_21 ci_7 ?_
  refine R_isub DL_law_23 ?_
  by_cases c5 : ((Int32.ofNat (gN G)) - (iI 7)) < a.1
  · replace h := if_t h c5
    refine R_icmp_gt_t DL_law_24 c5 ?_
    refine R.sub (L' := []) [] rfl ?_
    cases h
    exact he0 _ rfl
  · replace h := if_f h c5
    refine R_icmp_gt_f DL_law_24 c5 ?_
    refine R_aload DL_law_27 0 rfl ?_
    refine R_iload DL_law_28 3 rfl ?_
    obtain ⟨v6, ev6, h⟩ := bind_some h
    refine R_xI DL_law_29 ev6 ?_
    refine R_constI DL_law_30 ci_63 ?_
    refine R_iand DL_law_32 ?_
    by_cases c7 : (v6 &&& (iI 63)) = (iI 0)
    · replace h := if_t h c7
      refine R_tabIn (t := 292) DL_law_33 (by rw [c7]; decide) (by rw [c7]; decide) (off := 259) (by rw [c7]; rfl) (by decide) ?_
      refine R_aload DL_law_292 1 rfl ?_
      refine R_aload DL_law_293 0 rfl ?_
      refine R_iload DL_law_294 3 rfl ?_
      refine R_constI DL_law_295 ci_1 ?_
      refine R_iadd DL_law_296 ?_
      obtain ⟨v8, ev8, h⟩ := bind_some h
      refine R_xI DL_law_297 ev8 ?_
      refine R_aload DL_law_298 0 rfl ?_
      refine R_iload DL_law_299 3 rfl ?_
      refine R_constI DL_law_300 ci_2 ?_
      refine R_iadd DL_law_301 ?_
      obtain ⟨v9, ev9, h⟩ := bind_some h
      refine R_xI DL_law_302 ev9 ?_
      refine R_aload DL_law_303 0 rfl ?_
      refine R_iload DL_law_304 3 rfl ?_
      refine R_constI DL_law_305 ci_3 ?_
      refine R_iadd DL_law_306 ?_
      obtain ⟨v10, ev10, h⟩ := bind_some h
      refine R_xI DL_law_307 ev10 ?_
      refine R_aload DL_law_308 0 rfl ?_
      refine R_iload DL_law_309 3 rfl ?_
      refine R_constI DL_law_310 ci_4 ?_
      refine R_iadd DL_law_311 ?_
      obtain ⟨v11, ev11, h⟩ := bind_some h
      refine R_xI DL_law_312 ev11 ?_
      refine R_aload DL_law_313 0 rfl ?_
      refine R_iload DL_law_314 3 rfl ?_
      refine R_constI DL_law_315 ci_5 ?_
      refine R_iadd DL_law_316 ?_
      obtain ⟨v12, ev12, h⟩ := bind_some h
      refine R_xI DL_law_317 ev12 ?_
      obtain ⟨r13, er13, h⟩ := bind_some h
      refine R_cV1 [.int v8, .int v9, .int v10, .int v11, .int v12] DL_law_318 kzvX8_feed ml_RL_13 ⟨Nat.le_of_ble_eq_true rfl, Nat.le_of_ble_eq_true rfl⟩ rfl (Nat.le_of_ble_eq_true rfl) (kX8_feed er13) ?_
      refine R_aload DL_law_321 2 rfl ?_
      refine R_aload DL_law_322 0 rfl ?_
      refine R_iload DL_law_323 3 rfl ?_
      refine R_constI DL_law_324 ci_1 ?_
      refine R_iadd DL_law_325 ?_
      obtain ⟨v14, ev14, h⟩ := bind_some h
      refine R_xI DL_law_326 ev14 ?_
      refine R_aload DL_law_327 0 rfl ?_
      refine R_iload DL_law_328 3 rfl ?_
      refine R_constI DL_law_329 ci_2 ?_
      refine R_iadd DL_law_330 ?_
      obtain ⟨v15, ev15, h⟩ := bind_some h
      refine R_xI DL_law_331 ev15 ?_
      refine R_aload DL_law_332 0 rfl ?_
      refine R_iload DL_law_333 3 rfl ?_
      refine R_constI DL_law_334 ci_3 ?_
      refine R_iadd DL_law_335 ?_
      obtain ⟨v16, ev16, h⟩ := bind_some h
      refine R_xI DL_law_336 ev16 ?_
      refine R_aload DL_law_337 0 rfl ?_
      refine R_iload DL_law_338 3 rfl ?_
      refine R_constI DL_law_339 ci_4 ?_
      refine R_iadd DL_law_340 ?_
      obtain ⟨v17, ev17, h⟩ := bind_some h
      refine R_xI DL_law_341 ev17 ?_
      refine R_aload DL_law_342 0 rfl ?_
      refine R_iload DL_law_343 3 rfl ?_
      refine R_constI DL_law_344 ci_5 ?_
      refine R_iadd DL_law_345 ?_
      obtain ⟨v18, ev18, h⟩ := bind_some h
      refine R_xI DL_law_346 ev18 ?_
      obtain ⟨r19, er19, h⟩ := bind_some h
      refine R_cV1 [.int v14, .int v15, .int v16, .int v17, .int v18] DL_law_347 kzvX9_feed ml_RL_17 ⟨Nat.le_of_ble_eq_true rfl, Nat.le_of_ble_eq_true rfl⟩ rfl (Nat.le_of_ble_eq_true rfl) (kX9_feed er19) ?_
      by_cases c20 : r13.1 = r19.1
      · replace h := if_t h c20
        refine R_icmp_eq_t DL_law_350 c20 ?_
        exact tL_law_b2428 h hc he0 he1
      · replace h := if_f h c20
        refine R_icmp_eq_f DL_law_350 c20 ?_
        refine R.sub (L' := []) [] rfl ?_
        cases h
        exact (he1 _ rfl) 353 (List.mem_of_getElem? (i := 0) rfl)
    replace h := if_f h c7
    by_cases c21 : (v6 &&& (iI 63)) = (iI 1)
    · replace h := if_t h c21
      refine R_tabIn (t := 355) DL_law_33 (by rw [c21]; decide) (by rw [c21]; decide) (off := 322) (by rw [c21]; rfl) (by decide) ?_
      refine R_aload DL_law_355 1 rfl ?_
      refine R_aload DL_law_356 0 rfl ?_
      refine R_iload DL_law_357 3 rfl ?_
      refine R_constI DL_law_358 ci_1 ?_
      refine R_iadd DL_law_359 ?_
      obtain ⟨v22, ev22, h⟩ := bind_some h
      refine R_xI DL_law_360 ev22 ?_
      obtain ⟨r23, er23, h⟩ := bind_some h
      refine R_cV1 [.int v22] DL_law_361 kzvX8_end ml_RL_18 ⟨Nat.le_of_ble_eq_true rfl, Nat.le_of_ble_eq_true rfl⟩ rfl (Nat.le_of_ble_eq_true rfl) (kX8_end er23) ?_
      refine R_aload DL_law_364 2 rfl ?_
      refine R_aload DL_law_365 0 rfl ?_
      refine R_iload DL_law_366 3 rfl ?_
      refine R_constI DL_law_367 ci_1 ?_
      refine R_iadd DL_law_368 ?_
      obtain ⟨v24, ev24, h⟩ := bind_some h
      refine R_xI DL_law_369 ev24 ?_
      obtain ⟨r25, er25, h⟩ := bind_some h
      refine R_cV1 [.int v24] DL_law_370 kzvX9_end ml_RL_22 ⟨Nat.le_of_ble_eq_true rfl, Nat.le_of_ble_eq_true rfl⟩ rfl (Nat.le_of_ble_eq_true rfl) (kX9_end er25) ?_
      by_cases c26 : r23.1 = r25.1
      · replace h := if_t h c26
        refine R_icmp_eq_t DL_law_373 c26 ?_
        exact tL_law_b2428 h hc he0 he1
      · replace h := if_f h c26
        refine R_icmp_eq_f DL_law_373 c26 ?_
        refine R.sub (L' := []) [] rfl ?_
        cases h
        exact (he1 _ rfl) 376 (List.mem_of_getElem? (i := 1) rfl)
    replace h := if_f h c21
    by_cases c27 : (v6 &&& (iI 63)) = (iI 2)
    · replace h := if_t h c27
      refine R_tabIn (t := 378) DL_law_33 (by rw [c27]; decide) (by rw [c27]; decide) (off := 345) (by rw [c27]; rfl) (by decide) ?_
      refine R_aload DL_law_378 1 rfl ?_
      obtain ⟨r28, er28, h⟩ := bind_some h
      refine R_cV1 [] DL_law_379 kzvX8_valley ml_RL_23 ⟨Nat.le_of_ble_eq_true rfl, Nat.le_of_ble_eq_true rfl⟩ rfl (Nat.le_of_ble_eq_true rfl) (kX8_valley er28) ?_
      refine R_aload DL_law_382 2 rfl ?_
      obtain ⟨r29, er29, h⟩ := bind_some h
      refine R_cV1 [] DL_law_383 kzvX9_valley ml_RL_27 ⟨Nat.le_of_ble_eq_true rfl, Nat.le_of_ble_eq_true rfl⟩ rfl (Nat.le_of_ble_eq_true rfl) (kX9_valley er29) ?_
      by_cases c30 : r28.1 = r29.1
      · replace h := if_t h c30
        refine R_icmp_eq_t DL_law_386 c30 ?_
        exact tL_law_b2428 h hc he0 he1
      · replace h := if_f h c30
        refine R_icmp_eq_f DL_law_386 c30 ?_
        refine R.sub (L' := []) [] rfl ?_
        cases h
        exact (he1 _ rfl) 389 (List.mem_of_getElem? (i := 2) rfl)
    replace h := if_f h c27
    by_cases c31 : (v6 &&& (iI 63)) = (iI 3)
    · replace h := if_t h c31
      refine R_tabIn (t := 391) DL_law_33 (by rw [c31]; decide) (by rw [c31]; decide) (off := 358) (by rw [c31]; rfl) (by decide) ?_
      refine R_aload DL_law_391 1 rfl ?_
      refine R_aload DL_law_392 0 rfl ?_
      refine R_iload DL_law_393 3 rfl ?_
      refine R_constI DL_law_394 ci_1 ?_
      refine R_iadd DL_law_395 ?_
      obtain ⟨v32, ev32, h⟩ := bind_some h
      refine R_xI DL_law_396 ev32 ?_
      obtain ⟨r33, er33, h⟩ := bind_some h
      refine R_cV1 [.int v32] DL_law_397 kzvX8_fault ml_RL_28 ⟨Nat.le_of_ble_eq_true rfl, Nat.le_of_ble_eq_true rfl⟩ rfl (Nat.le_of_ble_eq_true rfl) (kX8_fault er33) ?_
      refine R_aload DL_law_400 2 rfl ?_
      refine R_aload DL_law_401 0 rfl ?_
      refine R_iload DL_law_402 3 rfl ?_
      refine R_constI DL_law_403 ci_1 ?_
      refine R_iadd DL_law_404 ?_
      obtain ⟨v34, ev34, h⟩ := bind_some h
      refine R_xI DL_law_405 ev34 ?_
      obtain ⟨r35, er35, h⟩ := bind_some h
      refine R_cV1 [.int v34] DL_law_406 kzvX9_fault ml_RL_31 ⟨Nat.le_of_ble_eq_true rfl, Nat.le_of_ble_eq_true rfl⟩ rfl (Nat.le_of_ble_eq_true rfl) (kX9_fault er35) ?_
      by_cases c36 : r33.1 = r35.1
      · replace h := if_t h c36
        refine R_icmp_eq_t DL_law_409 c36 ?_
        exact tL_law_b2428 h hc he0 he1
      · replace h := if_f h c36
        refine R_icmp_eq_f DL_law_409 c36 ?_
        refine R.sub (L' := []) [] rfl ?_
        cases h
        exact (he1 _ rfl) 412 (List.mem_of_getElem? (i := 3) rfl)
    replace h := if_f h c31
    by_cases c37 : (v6 &&& (iI 63)) = (iI 4)
    · replace h := if_t h c37
      refine R_tabIn (t := 414) DL_law_33 (by rw [c37]; decide) (by rw [c37]; decide) (off := 381) (by rw [c37]; rfl) (by decide) ?_
      refine R_aload DL_law_414 1 rfl ?_
      refine R_aload DL_law_415 0 rfl ?_
      refine R_iload DL_law_416 3 rfl ?_
      refine R_constI DL_law_417 ci_1 ?_
      refine R_iadd DL_law_418 ?_
      obtain ⟨v38, ev38, h⟩ := bind_some h
      refine R_xI DL_law_419 ev38 ?_
      refine R_aload DL_law_420 0 rfl ?_
      refine R_iload DL_law_421 3 rfl ?_
      refine R_constI DL_law_422 ci_2 ?_
      refine R_iadd DL_law_423 ?_
      obtain ⟨v39, ev39, h⟩ := bind_some h
      refine R_xI DL_law_424 ev39 ?_
      obtain ⟨r40, er40, h⟩ := bind_some h
      refine R_cV1 [.int v38, .int v39] DL_law_425 kzvX8_wind ml_RL_32 ⟨Nat.le_of_ble_eq_true rfl, Nat.le_of_ble_eq_true rfl⟩ rfl (Nat.le_of_ble_eq_true rfl) (kX8_wind er40) ?_
      refine R_aload DL_law_428 2 rfl ?_
      refine R_aload DL_law_429 0 rfl ?_
      refine R_iload DL_law_430 3 rfl ?_
      refine R_constI DL_law_431 ci_1 ?_
      refine R_iadd DL_law_432 ?_
      obtain ⟨v41, ev41, h⟩ := bind_some h
      refine R_xI DL_law_433 ev41 ?_
      refine R_aload DL_law_434 0 rfl ?_
      refine R_iload DL_law_435 3 rfl ?_
      refine R_constI DL_law_436 ci_2 ?_
      refine R_iadd DL_law_437 ?_
      obtain ⟨v42, ev42, h⟩ := bind_some h
      refine R_xI DL_law_438 ev42 ?_
      obtain ⟨r43, er43, h⟩ := bind_some h
      refine R_cV1 [.int v41, .int v42] DL_law_439 kzvX9_wind ml_RL_36 ⟨Nat.le_of_ble_eq_true rfl, Nat.le_of_ble_eq_true rfl⟩ rfl (Nat.le_of_ble_eq_true rfl) (kX9_wind er43) ?_
      by_cases c44 : r40.1 = r43.1
      · replace h := if_t h c44
        refine R_icmp_eq_t DL_law_442 c44 ?_
        exact tL_law_b2428 h hc he0 he1
      · replace h := if_f h c44
        refine R_icmp_eq_f DL_law_442 c44 ?_
        refine R.sub (L' := []) [] rfl ?_
        cases h
        exact (he1 _ rfl) 445 (List.mem_of_getElem? (i := 4) rfl)
    replace h := if_f h c37
    by_cases c45 : (v6 &&& (iI 63)) = (iI 5)
    · replace h := if_t h c45
      refine R_tabIn (t := 447) DL_law_33 (by rw [c45]; decide) (by rw [c45]; decide) (off := 414) (by rw [c45]; rfl) (by decide) ?_
      refine R_aload DL_law_447 1 rfl ?_
      refine R_aload DL_law_448 0 rfl ?_
      refine R_iload DL_law_449 3 rfl ?_
      refine R_constI DL_law_450 ci_1 ?_
      refine R_iadd DL_law_451 ?_
      obtain ⟨v46, ev46, h⟩ := bind_some h
      refine R_xI DL_law_452 ev46 ?_
      refine R_aload DL_law_453 0 rfl ?_
      refine R_iload DL_law_454 3 rfl ?_
      refine R_constI DL_law_455 ci_2 ?_
      refine R_iadd DL_law_456 ?_
      obtain ⟨v47, ev47, h⟩ := bind_some h
      refine R_xI DL_law_457 ev47 ?_
      obtain ⟨r48, er48, h⟩ := bind_some h
      refine R_cV1 [.int v46, .int v47] DL_law_458 kzvX8_often ml_RL_37 ⟨Nat.le_of_ble_eq_true rfl, Nat.le_of_ble_eq_true rfl⟩ rfl (Nat.le_of_ble_eq_true rfl) (kX8_often er48) ?_
      refine R_aload DL_law_461 2 rfl ?_
      refine R_aload DL_law_462 0 rfl ?_
      refine R_iload DL_law_463 3 rfl ?_
      refine R_constI DL_law_464 ci_1 ?_
      refine R_iadd DL_law_465 ?_
      obtain ⟨v49, ev49, h⟩ := bind_some h
      refine R_xI DL_law_466 ev49 ?_
      refine R_aload DL_law_467 0 rfl ?_
      refine R_iload DL_law_468 3 rfl ?_
      refine R_constI DL_law_469 ci_2 ?_
      refine R_iadd DL_law_470 ?_
      obtain ⟨v50, ev50, h⟩ := bind_some h
      refine R_xI DL_law_471 ev50 ?_
      obtain ⟨r51, er51, h⟩ := bind_some h
      refine R_cV1 [.int v49, .int v50] DL_law_472 kzvX9_often ml_RL_40 ⟨Nat.le_of_ble_eq_true rfl, Nat.le_of_ble_eq_true rfl⟩ rfl (Nat.le_of_ble_eq_true rfl) (kX9_often er51) ?_
      by_cases c52 : r48.1 = r51.1
      · replace h := if_t h c52
        refine R_icmp_eq_t DL_law_475 c52 ?_
        exact tL_law_b2428 h hc he0 he1
      · replace h := if_f h c52
        refine R_icmp_eq_f DL_law_475 c52 ?_
        refine R.sub (L' := []) [] rfl ?_
        cases h
        exact (he1 _ rfl) 478 (List.mem_of_getElem? (i := 5) rfl)
    replace h := if_f h c45
    by_cases c53 : (v6 &&& (iI 63)) = (iI 6)
    · replace h := if_t h c53
      refine R_tabIn (t := 480) DL_law_33 (by rw [c53]; decide) (by rw [c53]; decide) (off := 447) (by rw [c53]; rfl) (by decide) ?_
      refine R_aload DL_law_480 1 rfl ?_
      refine R_aload DL_law_481 0 rfl ?_
      refine R_iload DL_law_482 3 rfl ?_
      refine R_constI DL_law_483 ci_1 ?_
      refine R_iadd DL_law_484 ?_
      obtain ⟨v54, ev54, h⟩ := bind_some h
      refine R_xI DL_law_485 ev54 ?_
      refine R_aload DL_law_486 0 rfl ?_
      refine R_iload DL_law_487 3 rfl ?_
      refine R_constI DL_law_488 ci_2 ?_
      refine R_iadd DL_law_489 ?_
      obtain ⟨v55, ev55, h⟩ := bind_some h
      refine R_xI DL_law_490 ev55 ?_
      obtain ⟨r56, er56, h⟩ := bind_some h
      refine R_cV1 [.int v54, .int v55] DL_law_491 kzvX8_shop ml_RL_41 ⟨Nat.le_of_ble_eq_true rfl, Nat.le_of_ble_eq_true rfl⟩ rfl (Nat.le_of_ble_eq_true rfl) (kX8_shop er56) ?_
      refine R_aload DL_law_494 2 rfl ?_
      refine R_aload DL_law_495 0 rfl ?_
      refine R_iload DL_law_496 3 rfl ?_
      refine R_constI DL_law_497 ci_1 ?_
      refine R_iadd DL_law_498 ?_
      obtain ⟨v57, ev57, h⟩ := bind_some h
      refine R_xI DL_law_499 ev57 ?_
      refine R_aload DL_law_500 0 rfl ?_
      refine R_iload DL_law_501 3 rfl ?_
      refine R_constI DL_law_502 ci_2 ?_
      refine R_iadd DL_law_503 ?_
      obtain ⟨v58, ev58, h⟩ := bind_some h
      refine R_xI DL_law_504 ev58 ?_
      obtain ⟨r59, er59, h⟩ := bind_some h
      refine R_cV1 [.int v57, .int v58] DL_law_505 kzvX9_shop ml_RL_44 ⟨Nat.le_of_ble_eq_true rfl, Nat.le_of_ble_eq_true rfl⟩ rfl (Nat.le_of_ble_eq_true rfl) (kX9_shop er59) ?_
      by_cases c60 : r56.1 = r59.1
      · replace h := if_t h c60
        refine R_icmp_eq_t DL_law_508 c60 ?_
        exact tL_law_b2428 h hc he0 he1
      · replace h := if_f h c60
        refine R_icmp_eq_f DL_law_508 c60 ?_
        refine R.sub (L' := []) [] rfl ?_
        cases h
        exact (he1 _ rfl) 511 (List.mem_of_getElem? (i := 6) rfl)
    replace h := if_f h c53
    by_cases c61 : (v6 &&& (iI 63)) = (iI 7)
    · replace h := if_t h c61
      refine R_tabIn (t := 513) DL_law_33 (by rw [c61]; decide) (by rw [c61]; decide) (off := 480) (by rw [c61]; rfl) (by decide) ?_
      refine R_aload DL_law_513 1 rfl ?_
      refine R_aload DL_law_514 0 rfl ?_
      refine R_iload DL_law_515 3 rfl ?_
      refine R_constI DL_law_516 ci_1 ?_
      refine R_iadd DL_law_517 ?_
      obtain ⟨v62, ev62, h⟩ := bind_some h
      refine R_xI DL_law_518 ev62 ?_
      refine R_aload DL_law_519 0 rfl ?_
      refine R_iload DL_law_520 3 rfl ?_
      refine R_constI DL_law_521 ci_2 ?_
      refine R_iadd DL_law_522 ?_
      obtain ⟨v63, ev63, h⟩ := bind_some h
      refine R_xI DL_law_523 ev63 ?_
      obtain ⟨r64, er64, h⟩ := bind_some h
      refine R_cV1 [.int v62, .int v63] DL_law_524 kzvX8_door ml_RL_45 ⟨Nat.le_of_ble_eq_true rfl, Nat.le_of_ble_eq_true rfl⟩ rfl (Nat.le_of_ble_eq_true rfl) (kX8_door er64) ?_
      refine R_aload DL_law_527 2 rfl ?_
      refine R_aload DL_law_528 0 rfl ?_
      refine R_iload DL_law_529 3 rfl ?_
      refine R_constI DL_law_530 ci_1 ?_
      refine R_iadd DL_law_531 ?_
      obtain ⟨v65, ev65, h⟩ := bind_some h
      refine R_xI DL_law_532 ev65 ?_
      refine R_aload DL_law_533 0 rfl ?_
      refine R_iload DL_law_534 3 rfl ?_
      refine R_constI DL_law_535 ci_2 ?_
      refine R_iadd DL_law_536 ?_
      obtain ⟨v66, ev66, h⟩ := bind_some h
      refine R_xI DL_law_537 ev66 ?_
      obtain ⟨r67, er67, h⟩ := bind_some h
      refine R_cV1 [.int v65, .int v66] DL_law_538 kzvX9_door ml_RL_48 ⟨Nat.le_of_ble_eq_true rfl, Nat.le_of_ble_eq_true rfl⟩ rfl (Nat.le_of_ble_eq_true rfl) (kX9_door er67) ?_
      by_cases c68 : r64.1 = r67.1
      · replace h := if_t h c68
        refine R_icmp_eq_t DL_law_541 c68 ?_
        exact tL_law_b2428 h hc he0 he1
      · replace h := if_f h c68
        refine R_icmp_eq_f DL_law_541 c68 ?_
        refine R.sub (L' := []) [] rfl ?_
        cases h
        exact (he1 _ rfl) 544 (List.mem_of_getElem? (i := 7) rfl)
    replace h := if_f h c61
    by_cases c69 : (v6 &&& (iI 63)) = (iI 8)
    · replace h := if_t h c69
      refine R_tabIn (t := 546) DL_law_33 (by rw [c69]; decide) (by rw [c69]; decide) (off := 513) (by rw [c69]; rfl) (by decide) ?_
      refine R_aload DL_law_546 1 rfl ?_
      refine R_aload DL_law_547 0 rfl ?_
      refine R_iload DL_law_548 3 rfl ?_
      refine R_constI DL_law_549 ci_1 ?_
      refine R_iadd DL_law_550 ?_
      obtain ⟨v70, ev70, h⟩ := bind_some h
      refine R_xI DL_law_551 ev70 ?_
      refine R_aload DL_law_552 0 rfl ?_
      refine R_iload DL_law_553 3 rfl ?_
      refine R_constI DL_law_554 ci_2 ?_
      refine R_iadd DL_law_555 ?_
      obtain ⟨v71, ev71, h⟩ := bind_some h
      refine R_xI DL_law_556 ev71 ?_
      obtain ⟨r72, er72, h⟩ := bind_some h
      refine R_cV1 [.int v70, .int v71] DL_law_557 kzvX8_act ml_RL_49 ⟨Nat.le_of_ble_eq_true rfl, Nat.le_of_ble_eq_true rfl⟩ rfl (Nat.le_of_ble_eq_true rfl) (kX8_act er72) ?_
      refine R_aload DL_law_560 2 rfl ?_
      refine R_aload DL_law_561 0 rfl ?_
      refine R_iload DL_law_562 3 rfl ?_
      refine R_constI DL_law_563 ci_1 ?_
      refine R_iadd DL_law_564 ?_
      obtain ⟨v73, ev73, h⟩ := bind_some h
      refine R_xI DL_law_565 ev73 ?_
      refine R_aload DL_law_566 0 rfl ?_
      refine R_iload DL_law_567 3 rfl ?_
      refine R_constI DL_law_568 ci_2 ?_
      refine R_iadd DL_law_569 ?_
      obtain ⟨v74, ev74, h⟩ := bind_some h
      refine R_xI DL_law_570 ev74 ?_
      obtain ⟨r75, er75, h⟩ := bind_some h
      refine R_cV1 [.int v73, .int v74] DL_law_571 kzvX9_act ml_RL_52 ⟨Nat.le_of_ble_eq_true rfl, Nat.le_of_ble_eq_true rfl⟩ rfl (Nat.le_of_ble_eq_true rfl) (kX9_act er75) ?_
      by_cases c76 : r72.1 = r75.1
      · replace h := if_t h c76
        refine R_icmp_eq_t DL_law_574 c76 ?_
        exact tL_law_b2428 h hc he0 he1
      · replace h := if_f h c76
        refine R_icmp_eq_f DL_law_574 c76 ?_
        refine R.sub (L' := []) [] rfl ?_
        cases h
        exact (he1 _ rfl) 577 (List.mem_of_getElem? (i := 8) rfl)
    replace h := if_f h c69
    by_cases c77 : (v6 &&& (iI 63)) = (iI 9)
    · replace h := if_t h c77
      refine R_tabIn (t := 579) DL_law_33 (by rw [c77]; decide) (by rw [c77]; decide) (off := 546) (by rw [c77]; rfl) (by decide) ?_
      refine R_aload DL_law_579 1 rfl ?_
      refine R_aload DL_law_580 0 rfl ?_
      refine R_iload DL_law_581 3 rfl ?_
      refine R_constI DL_law_582 ci_1 ?_
      refine R_iadd DL_law_583 ?_
      obtain ⟨v78, ev78, h⟩ := bind_some h
      refine R_xI DL_law_584 ev78 ?_
      refine R_aload DL_law_585 0 rfl ?_
      refine R_iload DL_law_586 3 rfl ?_
      refine R_constI DL_law_587 ci_2 ?_
      refine R_iadd DL_law_588 ?_
      obtain ⟨v79, ev79, h⟩ := bind_some h
      refine R_xI DL_law_589 ev79 ?_
      refine R_aload DL_law_590 0 rfl ?_
      refine R_iload DL_law_591 3 rfl ?_
      refine R_constI DL_law_592 ci_3 ?_
      refine R_iadd DL_law_593 ?_
      obtain ⟨v80, ev80, h⟩ := bind_some h
      refine R_xI DL_law_594 ev80 ?_
      obtain ⟨r81, er81, h⟩ := bind_some h
      refine R_cV1 [.int v78, .int v79, .int v80] DL_law_595 kzvX8_plan ml_RL_53 ⟨Nat.le_of_ble_eq_true rfl, Nat.le_of_ble_eq_true rfl⟩ rfl (Nat.le_of_ble_eq_true rfl) (kX8_plan er81) ?_
      refine R_aload DL_law_598 2 rfl ?_
      refine R_aload DL_law_599 0 rfl ?_
      refine R_iload DL_law_600 3 rfl ?_
      refine R_constI DL_law_601 ci_1 ?_
      refine R_iadd DL_law_602 ?_
      obtain ⟨v82, ev82, h⟩ := bind_some h
      refine R_xI DL_law_603 ev82 ?_
      refine R_aload DL_law_604 0 rfl ?_
      refine R_iload DL_law_605 3 rfl ?_
      refine R_constI DL_law_606 ci_2 ?_
      refine R_iadd DL_law_607 ?_
      obtain ⟨v83, ev83, h⟩ := bind_some h
      refine R_xI DL_law_608 ev83 ?_
      refine R_aload DL_law_609 0 rfl ?_
      refine R_iload DL_law_610 3 rfl ?_
      refine R_constI DL_law_611 ci_3 ?_
      refine R_iadd DL_law_612 ?_
      obtain ⟨v84, ev84, h⟩ := bind_some h
      refine R_xI DL_law_613 ev84 ?_
      obtain ⟨r85, er85, h⟩ := bind_some h
      refine R_cV1 [.int v82, .int v83, .int v84] DL_law_614 kzvX9_plan ml_RL_57 ⟨Nat.le_of_ble_eq_true rfl, Nat.le_of_ble_eq_true rfl⟩ rfl (Nat.le_of_ble_eq_true rfl) (kX9_plan er85) ?_
      by_cases c86 : r81.1 = r85.1
      · replace h := if_t h c86
        refine R_icmp_eq_t DL_law_617 c86 ?_
        exact tL_law_b2428 h hc he0 he1
      · replace h := if_f h c86
        refine R_icmp_eq_f DL_law_617 c86 ?_
        refine R.sub (L' := []) [] rfl ?_
        cases h
        exact (he1 _ rfl) 620 (List.mem_of_getElem? (i := 9) rfl)
    replace h := if_f h c77
    by_cases c87 : (v6 &&& (iI 63)) = (iI 10)
    · replace h := if_t h c87
      refine R_tabIn (t := 622) DL_law_33 (by rw [c87]; decide) (by rw [c87]; decide) (off := 589) (by rw [c87]; rfl) (by decide) ?_
      refine R_aload DL_law_622 1 rfl ?_
      obtain ⟨r88, er88, h⟩ := bind_some h
      refine R_cV1 [] DL_law_623 kzvX8_undo ml_RL_58 ⟨Nat.le_of_ble_eq_true rfl, Nat.le_of_ble_eq_true rfl⟩ rfl (Nat.le_of_ble_eq_true rfl) (kX8_undo er88) ?_
      refine R_aload DL_law_626 2 rfl ?_
      obtain ⟨r89, er89, h⟩ := bind_some h
      refine R_cV1 [] DL_law_627 kzvX9_undo ml_RL_61 ⟨Nat.le_of_ble_eq_true rfl, Nat.le_of_ble_eq_true rfl⟩ rfl (Nat.le_of_ble_eq_true rfl) (kX9_undo er89) ?_
      by_cases c90 : r88.1 = r89.1
      · replace h := if_t h c90
        refine R_icmp_eq_t DL_law_630 c90 ?_
        exact tL_law_b2428 h hc he0 he1
      · replace h := if_f h c90
        refine R_icmp_eq_f DL_law_630 c90 ?_
        refine R.sub (L' := []) [] rfl ?_
        cases h
        exact (he1 _ rfl) 633 (List.mem_of_getElem? (i := 10) rfl)
    replace h := if_f h c87
    by_cases c91 : (v6 &&& (iI 63)) = (iI 11)
    · replace h := if_t h c91
      refine R_tabIn (t := 635) DL_law_33 (by rw [c91]; decide) (by rw [c91]; decide) (off := 602) (by rw [c91]; rfl) (by decide) ?_
      refine R_aload DL_law_635 1 rfl ?_
      refine R_aload DL_law_636 0 rfl ?_
      refine R_iload DL_law_637 3 rfl ?_
      refine R_constI DL_law_638 ci_1 ?_
      refine R_iadd DL_law_639 ?_
      obtain ⟨v92, ev92, h⟩ := bind_some h
      refine R_xI DL_law_640 ev92 ?_
      refine R_aload DL_law_641 0 rfl ?_
      refine R_iload DL_law_642 3 rfl ?_
      refine R_constI DL_law_643 ci_2 ?_
      refine R_iadd DL_law_644 ?_
      obtain ⟨v93, ev93, h⟩ := bind_some h
      refine R_xI DL_law_645 ev93 ?_
      obtain ⟨r94, er94, h⟩ := bind_some h
      refine R_cV1 [.int v92, .int v93] DL_law_646 kzvX8_changed ml_RL_62 ⟨Nat.le_of_ble_eq_true rfl, Nat.le_of_ble_eq_true rfl⟩ rfl (Nat.le_of_ble_eq_true rfl) (kX8_changed er94) ?_
      refine R_aload DL_law_649 2 rfl ?_
      refine R_aload DL_law_650 0 rfl ?_
      refine R_iload DL_law_651 3 rfl ?_
      refine R_constI DL_law_652 ci_1 ?_
      refine R_iadd DL_law_653 ?_
      obtain ⟨v95, ev95, h⟩ := bind_some h
      refine R_xI DL_law_654 ev95 ?_
      refine R_aload DL_law_655 0 rfl ?_
      refine R_iload DL_law_656 3 rfl ?_
      refine R_constI DL_law_657 ci_2 ?_
      refine R_iadd DL_law_658 ?_
      obtain ⟨v96, ev96, h⟩ := bind_some h
      refine R_xI DL_law_659 ev96 ?_
      obtain ⟨r97, er97, h⟩ := bind_some h
      refine R_cV1 [.int v95, .int v96] DL_law_660 kzvX9_changed ml_RL_65 ⟨Nat.le_of_ble_eq_true rfl, Nat.le_of_ble_eq_true rfl⟩ rfl (Nat.le_of_ble_eq_true rfl) (kX9_changed er97) ?_
      by_cases c98 : r94.1 = r97.1
      · replace h := if_t h c98
        refine R_icmp_eq_t DL_law_663 c98 ?_
        exact tL_law_b2428 h hc he0 he1
      · replace h := if_f h c98
        refine R_icmp_eq_f DL_law_663 c98 ?_
        refine R.sub (L' := []) [] rfl ?_
        cases h
        exact (he1 _ rfl) 666 (List.mem_of_getElem? (i := 11) rfl)
    replace h := if_f h c91
    by_cases c99 : (v6 &&& (iI 63)) = (iI 12)
    · replace h := if_t h c99
      refine R_tabIn (t := 668) DL_law_33 (by rw [c99]; decide) (by rw [c99]; decide) (off := 635) (by rw [c99]; rfl) (by decide) ?_
      refine R_aload DL_law_668 1 rfl ?_
      refine R_aload DL_law_669 0 rfl ?_
      refine R_iload DL_law_670 3 rfl ?_
      refine R_constI DL_law_671 ci_1 ?_
      refine R_iadd DL_law_672 ?_
      obtain ⟨v100, ev100, h⟩ := bind_some h
      refine R_xI DL_law_673 ev100 ?_
      refine R_aload DL_law_674 0 rfl ?_
      refine R_iload DL_law_675 3 rfl ?_
      refine R_constI DL_law_676 ci_2 ?_
      refine R_iadd DL_law_677 ?_
      obtain ⟨v101, ev101, h⟩ := bind_some h
      refine R_xI DL_law_678 ev101 ?_
      refine R_aload DL_law_679 0 rfl ?_
      refine R_iload DL_law_680 3 rfl ?_
      refine R_constI DL_law_681 ci_3 ?_
      refine R_iadd DL_law_682 ?_
      obtain ⟨v102, ev102, h⟩ := bind_some h
      refine R_xI DL_law_683 ev102 ?_
      obtain ⟨r103, er103, h⟩ := bind_some h
      refine R_cV1 [.int v100, .int v101, .int v102] DL_law_684 kzvX8_where ml_RL_66 ⟨Nat.le_of_ble_eq_true rfl, Nat.le_of_ble_eq_true rfl⟩ rfl (Nat.le_of_ble_eq_true rfl) (kX8_where er103) ?_
      refine R_aload DL_law_687 2 rfl ?_
      refine R_aload DL_law_688 0 rfl ?_
      refine R_iload DL_law_689 3 rfl ?_
      refine R_constI DL_law_690 ci_1 ?_
      refine R_iadd DL_law_691 ?_
      obtain ⟨v104, ev104, h⟩ := bind_some h
      refine R_xI DL_law_692 ev104 ?_
      refine R_aload DL_law_693 0 rfl ?_
      refine R_iload DL_law_694 3 rfl ?_
      refine R_constI DL_law_695 ci_2 ?_
      refine R_iadd DL_law_696 ?_
      obtain ⟨v105, ev105, h⟩ := bind_some h
      refine R_xI DL_law_697 ev105 ?_
      refine R_aload DL_law_698 0 rfl ?_
      refine R_iload DL_law_699 3 rfl ?_
      refine R_constI DL_law_700 ci_3 ?_
      refine R_iadd DL_law_701 ?_
      obtain ⟨v106, ev106, h⟩ := bind_some h
      refine R_xI DL_law_702 ev106 ?_
      obtain ⟨r107, er107, h⟩ := bind_some h
      refine R_cV1 [.int v104, .int v105, .int v106] DL_law_703 kzvX9_where ml_RL_69 ⟨Nat.le_of_ble_eq_true rfl, Nat.le_of_ble_eq_true rfl⟩ rfl (Nat.le_of_ble_eq_true rfl) (kX9_where er107) ?_
      by_cases c108 : r103.1 = r107.1
      · replace h := if_t h c108
        refine R_icmp_eq_t DL_law_706 c108 ?_
        exact tL_law_b2428 h hc he0 he1
      · replace h := if_f h c108
        refine R_icmp_eq_f DL_law_706 c108 ?_
        refine R.sub (L' := []) [] rfl ?_
        cases h
        exact (he1 _ rfl) 709 (List.mem_of_getElem? (i := 12) rfl)
    replace h := if_f h c99
    by_cases c109 : (v6 &&& (iI 63)) = (iI 13)
    · replace h := if_t h c109
      refine R_tabIn (t := 711) DL_law_33 (by rw [c109]; decide) (by rw [c109]; decide) (off := 678) (by rw [c109]; rfl) (by decide) ?_
      refine R_aload DL_law_711 1 rfl ?_
      refine R_aload DL_law_712 0 rfl ?_
      refine R_iload DL_law_713 3 rfl ?_
      refine R_constI DL_law_714 ci_1 ?_
      refine R_iadd DL_law_715 ?_
      obtain ⟨v110, ev110, h⟩ := bind_some h
      refine R_xI DL_law_716 ev110 ?_
      refine R_aload DL_law_717 0 rfl ?_
      refine R_iload DL_law_718 3 rfl ?_
      refine R_constI DL_law_719 ci_2 ?_
      refine R_iadd DL_law_720 ?_
      obtain ⟨v111, ev111, h⟩ := bind_some h
      refine R_xI DL_law_721 ev111 ?_
      obtain ⟨r112, er112, h⟩ := bind_some h
      refine R_cV1 [.int v110, .int v111] DL_law_722 kzvX8_why ml_RL_70 ⟨Nat.le_of_ble_eq_true rfl, Nat.le_of_ble_eq_true rfl⟩ rfl (Nat.le_of_ble_eq_true rfl) (kX8_why er112) ?_
      refine R_aload DL_law_725 2 rfl ?_
      refine R_aload DL_law_726 0 rfl ?_
      refine R_iload DL_law_727 3 rfl ?_
      refine R_constI DL_law_728 ci_1 ?_
      refine R_iadd DL_law_729 ?_
      obtain ⟨v113, ev113, h⟩ := bind_some h
      refine R_xI DL_law_730 ev113 ?_
      refine R_aload DL_law_731 0 rfl ?_
      refine R_iload DL_law_732 3 rfl ?_
      refine R_constI DL_law_733 ci_2 ?_
      refine R_iadd DL_law_734 ?_
      obtain ⟨v114, ev114, h⟩ := bind_some h
      refine R_xI DL_law_735 ev114 ?_
      obtain ⟨r115, er115, h⟩ := bind_some h
      refine R_cV1 [.int v113, .int v114] DL_law_736 kzvX9_why ml_RL_73 ⟨Nat.le_of_ble_eq_true rfl, Nat.le_of_ble_eq_true rfl⟩ rfl (Nat.le_of_ble_eq_true rfl) (kX9_why er115) ?_
      by_cases c116 : r112.1 = r115.1
      · replace h := if_t h c116
        refine R_icmp_eq_t DL_law_739 c116 ?_
        exact tL_law_b2428 h hc he0 he1
      · replace h := if_f h c116
        refine R_icmp_eq_f DL_law_739 c116 ?_
        refine R.sub (L' := []) [] rfl ?_
        cases h
        exact (he1 _ rfl) 742 (List.mem_of_getElem? (i := 13) rfl)
    replace h := if_f h c109
    by_cases c117 : (v6 &&& (iI 63)) = (iI 14)
    · replace h := if_t h c117
      refine R_tabIn (t := 744) DL_law_33 (by rw [c117]; decide) (by rw [c117]; decide) (off := 711) (by rw [c117]; rfl) (by decide) ?_
      refine R_aload DL_law_744 1 rfl ?_
      refine R_aload DL_law_745 0 rfl ?_
      refine R_iload DL_law_746 3 rfl ?_
      refine R_constI DL_law_747 ci_1 ?_
      refine R_iadd DL_law_748 ?_
      obtain ⟨v118, ev118, h⟩ := bind_some h
      refine R_xI DL_law_749 ev118 ?_
      obtain ⟨r119, er119, h⟩ := bind_some h
      refine R_cV1 [.int v118] DL_law_750 kzvX8_vain ml_RL_74 ⟨Nat.le_of_ble_eq_true rfl, Nat.le_of_ble_eq_true rfl⟩ rfl (Nat.le_of_ble_eq_true rfl) (kX8_vain er119) ?_
      refine R_aload DL_law_753 2 rfl ?_
      refine R_aload DL_law_754 0 rfl ?_
      refine R_iload DL_law_755 3 rfl ?_
      refine R_constI DL_law_756 ci_1 ?_
      refine R_iadd DL_law_757 ?_
      obtain ⟨v120, ev120, h⟩ := bind_some h
      refine R_xI DL_law_758 ev120 ?_
      obtain ⟨r121, er121, h⟩ := bind_some h
      refine R_cV1 [.int v120] DL_law_759 kzvX9_vain ml_RL_77 ⟨Nat.le_of_ble_eq_true rfl, Nat.le_of_ble_eq_true rfl⟩ rfl (Nat.le_of_ble_eq_true rfl) (kX9_vain er121) ?_
      by_cases c122 : r119.1 = r121.1
      · replace h := if_t h c122
        refine R_icmp_eq_t DL_law_762 c122 ?_
        exact tL_law_b2428 h hc he0 he1
      · replace h := if_f h c122
        refine R_icmp_eq_f DL_law_762 c122 ?_
        refine R.sub (L' := []) [] rfl ?_
        cases h
        exact (he1 _ rfl) 765 (List.mem_of_getElem? (i := 14) rfl)
    replace h := if_f h c117
    by_cases c123 : (v6 &&& (iI 63)) = (iI 15)
    · replace h := if_t h c123
      refine R_tabIn (t := 767) DL_law_33 (by rw [c123]; decide) (by rw [c123]; decide) (off := 734) (by rw [c123]; rfl) (by decide) ?_
      refine R_aload DL_law_767 1 rfl ?_
      refine R_aload DL_law_768 0 rfl ?_
      refine R_iload DL_law_769 3 rfl ?_
      refine R_constI DL_law_770 ci_1 ?_
      refine R_iadd DL_law_771 ?_
      obtain ⟨v124, ev124, h⟩ := bind_some h
      refine R_xI DL_law_772 ev124 ?_
      refine R_aload DL_law_773 0 rfl ?_
      refine R_iload DL_law_774 3 rfl ?_
      refine R_constI DL_law_775 ci_2 ?_
      refine R_iadd DL_law_776 ?_
      obtain ⟨v125, ev125, h⟩ := bind_some h
      refine R_xI DL_law_777 ev125 ?_
      obtain ⟨r126, er126, h⟩ := bind_some h
      refine R_cV1 [.int v124, .int v125] DL_law_778 kzvX8_blown ml_RL_78 ⟨Nat.le_of_ble_eq_true rfl, Nat.le_of_ble_eq_true rfl⟩ rfl (Nat.le_of_ble_eq_true rfl) (kX8_blown er126) ?_
      refine R_aload DL_law_781 2 rfl ?_
      refine R_aload DL_law_782 0 rfl ?_
      refine R_iload DL_law_783 3 rfl ?_
      refine R_constI DL_law_784 ci_1 ?_
      refine R_iadd DL_law_785 ?_
      obtain ⟨v127, ev127, h⟩ := bind_some h
      refine R_xI DL_law_786 ev127 ?_
      refine R_aload DL_law_787 0 rfl ?_
      refine R_iload DL_law_788 3 rfl ?_
      refine R_constI DL_law_789 ci_2 ?_
      refine R_iadd DL_law_790 ?_
      obtain ⟨v128, ev128, h⟩ := bind_some h
      refine R_xI DL_law_791 ev128 ?_
      obtain ⟨r129, er129, h⟩ := bind_some h
      refine R_cV1 [.int v127, .int v128] DL_law_792 kzvX9_blown ml_RL_81 ⟨Nat.le_of_ble_eq_true rfl, Nat.le_of_ble_eq_true rfl⟩ rfl (Nat.le_of_ble_eq_true rfl) (kX9_blown er129) ?_
      by_cases c130 : r126.1 = r129.1
      · replace h := if_t h c130
        refine R_icmp_eq_t DL_law_795 c130 ?_
        exact tL_law_b2428 h hc he0 he1
      · replace h := if_f h c130
        refine R_icmp_eq_f DL_law_795 c130 ?_
        refine R.sub (L' := []) [] rfl ?_
        cases h
        exact (he1 _ rfl) 798 (List.mem_of_getElem? (i := 15) rfl)
    replace h := if_f h c123
    by_cases c131 : (v6 &&& (iI 63)) = (iI 16)
    · replace h := if_t h c131
      refine R_tabIn (t := 800) DL_law_33 (by rw [c131]; decide) (by rw [c131]; decide) (off := 767) (by rw [c131]; rfl) (by decide) ?_
      refine R_aload DL_law_800 1 rfl ?_
      refine R_aload DL_law_801 0 rfl ?_
      refine R_iload DL_law_802 3 rfl ?_
      refine R_constI DL_law_803 ci_1 ?_
      refine R_iadd DL_law_804 ?_
      obtain ⟨v132, ev132, h⟩ := bind_some h
      refine R_xI DL_law_805 ev132 ?_
      refine R_aload DL_law_806 0 rfl ?_
      refine R_iload DL_law_807 3 rfl ?_
      refine R_constI DL_law_808 ci_2 ?_
      refine R_iadd DL_law_809 ?_
      obtain ⟨v133, ev133, h⟩ := bind_some h
      refine R_xI DL_law_810 ev133 ?_
      obtain ⟨r134, er134, h⟩ := bind_some h
      refine R_cV1 [.int v132, .int v133] DL_law_811 kzvX8_sales ml_RL_82 ⟨Nat.le_of_ble_eq_true rfl, Nat.le_of_ble_eq_true rfl⟩ rfl (Nat.le_of_ble_eq_true rfl) (kX8_sales er134) ?_
      refine R_aload DL_law_814 2 rfl ?_
      refine R_aload DL_law_815 0 rfl ?_
      refine R_iload DL_law_816 3 rfl ?_
      refine R_constI DL_law_817 ci_1 ?_
      refine R_iadd DL_law_818 ?_
      obtain ⟨v135, ev135, h⟩ := bind_some h
      refine R_xI DL_law_819 ev135 ?_
      refine R_aload DL_law_820 0 rfl ?_
      refine R_iload DL_law_821 3 rfl ?_
      refine R_constI DL_law_822 ci_2 ?_
      refine R_iadd DL_law_823 ?_
      obtain ⟨v136, ev136, h⟩ := bind_some h
      refine R_xI DL_law_824 ev136 ?_
      obtain ⟨r137, er137, h⟩ := bind_some h
      refine R_cV1 [.int v135, .int v136] DL_law_825 kzvX9_sales ml_RL_85 ⟨Nat.le_of_ble_eq_true rfl, Nat.le_of_ble_eq_true rfl⟩ rfl (Nat.le_of_ble_eq_true rfl) (kX9_sales er137) ?_
      by_cases c138 : r134.1 = r137.1
      · replace h := if_t h c138
        refine R_icmp_eq_t DL_law_828 c138 ?_
        exact tL_law_b2428 h hc he0 he1
      · replace h := if_f h c138
        refine R_icmp_eq_f DL_law_828 c138 ?_
        refine R.sub (L' := []) [] rfl ?_
        cases h
        exact (he1 _ rfl) 831 (List.mem_of_getElem? (i := 16) rfl)
    replace h := if_f h c131
    by_cases c139 : (v6 &&& (iI 63)) = (iI 17)
    · replace h := if_t h c139
      refine R_tabIn (t := 833) DL_law_33 (by rw [c139]; decide) (by rw [c139]; decide) (off := 800) (by rw [c139]; rfl) (by decide) ?_
      refine R_aload DL_law_833 1 rfl ?_
      refine R_aload DL_law_834 0 rfl ?_
      refine R_iload DL_law_835 3 rfl ?_
      refine R_constI DL_law_836 ci_1 ?_
      refine R_iadd DL_law_837 ?_
      obtain ⟨v140, ev140, h⟩ := bind_some h
      refine R_xI DL_law_838 ev140 ?_
      refine R_aload DL_law_839 0 rfl ?_
      refine R_iload DL_law_840 3 rfl ?_
      refine R_constI DL_law_841 ci_2 ?_
      refine R_iadd DL_law_842 ?_
      obtain ⟨v141, ev141, h⟩ := bind_some h
      refine R_xI DL_law_843 ev141 ?_
      obtain ⟨r142, er142, h⟩ := bind_some h
      refine R_cV1 [.int v140, .int v141] DL_law_844 kzvX8_sold ml_RL_86 ⟨Nat.le_of_ble_eq_true rfl, Nat.le_of_ble_eq_true rfl⟩ rfl (Nat.le_of_ble_eq_true rfl) (kX8_sold er142) ?_
      refine R_aload DL_law_847 2 rfl ?_
      refine R_aload DL_law_848 0 rfl ?_
      refine R_iload DL_law_849 3 rfl ?_
      refine R_constI DL_law_850 ci_1 ?_
      refine R_iadd DL_law_851 ?_
      obtain ⟨v143, ev143, h⟩ := bind_some h
      refine R_xI DL_law_852 ev143 ?_
      refine R_aload DL_law_853 0 rfl ?_
      refine R_iload DL_law_854 3 rfl ?_
      refine R_constI DL_law_855 ci_2 ?_
      refine R_iadd DL_law_856 ?_
      obtain ⟨v144, ev144, h⟩ := bind_some h
      refine R_xI DL_law_857 ev144 ?_
      obtain ⟨r145, er145, h⟩ := bind_some h
      refine R_cV1 [.int v143, .int v144] DL_law_858 kzvX9_sold ml_RL_89 ⟨Nat.le_of_ble_eq_true rfl, Nat.le_of_ble_eq_true rfl⟩ rfl (Nat.le_of_ble_eq_true rfl) (kX9_sold er145) ?_
      by_cases c146 : r142.1 = r145.1
      · replace h := if_t h c146
        refine R_icmp_eq_t DL_law_861 c146 ?_
        exact tL_law_b2428 h hc he0 he1
      · replace h := if_f h c146
        refine R_icmp_eq_f DL_law_861 c146 ?_
        refine R.sub (L' := []) [] rfl ?_
        cases h
        exact (he1 _ rfl) 864 (List.mem_of_getElem? (i := 17) rfl)
    replace h := if_f h c139
    by_cases c147 : (v6 &&& (iI 63)) = (iI 18)
    · replace h := if_t h c147
      refine R_tabIn (t := 866) DL_law_33 (by rw [c147]; decide) (by rw [c147]; decide) (off := 833) (by rw [c147]; rfl) (by decide) ?_
      refine R_aload DL_law_866 1 rfl ?_
      obtain ⟨r148, er148, h⟩ := bind_some h
      refine R_cV1 [] DL_law_867 kzvX8_money ml_RL_90 ⟨Nat.le_of_ble_eq_true rfl, Nat.le_of_ble_eq_true rfl⟩ rfl (Nat.le_of_ble_eq_true rfl) (kX8_money er148) ?_
      refine R_aload DL_law_870 2 rfl ?_
      obtain ⟨r149, er149, h⟩ := bind_some h
      refine R_cV1 [] DL_law_871 kzvX9_money ml_RL_93 ⟨Nat.le_of_ble_eq_true rfl, Nat.le_of_ble_eq_true rfl⟩ rfl (Nat.le_of_ble_eq_true rfl) (kX9_money er149) ?_
      by_cases c150 : r148.1 = r149.1
      · replace h := if_t h c150
        refine R_icmp_eq_t DL_law_874 c150 ?_
        exact tL_law_b2428 h hc he0 he1
      · replace h := if_f h c150
        refine R_icmp_eq_f DL_law_874 c150 ?_
        refine R.sub (L' := []) [] rfl ?_
        cases h
        exact (he1 _ rfl) 877 (List.mem_of_getElem? (i := 18) rfl)
    replace h := if_f h c147
    by_cases c151 : (v6 &&& (iI 63)) = (iI 19)
    · replace h := if_t h c151
      refine R_tabIn (t := 879) DL_law_33 (by rw [c151]; decide) (by rw [c151]; decide) (off := 846) (by rw [c151]; rfl) (by decide) ?_
      refine R_aload DL_law_879 1 rfl ?_
      obtain ⟨r152, er152, h⟩ := bind_some h
      refine R_cV1 [] DL_law_880 kzvX8_richest ml_RL_94 ⟨Nat.le_of_ble_eq_true rfl, Nat.le_of_ble_eq_true rfl⟩ rfl (Nat.le_of_ble_eq_true rfl) (kX8_richest er152) ?_
      refine R_aload DL_law_883 2 rfl ?_
      obtain ⟨r153, er153, h⟩ := bind_some h
      refine R_cV1 [] DL_law_884 kzvX9_richest ml_RL_97 ⟨Nat.le_of_ble_eq_true rfl, Nat.le_of_ble_eq_true rfl⟩ rfl (Nat.le_of_ble_eq_true rfl) (kX9_richest er153) ?_
      by_cases c154 : r152.1 = r153.1
      · replace h := if_t h c154
        refine R_icmp_eq_t DL_law_887 c154 ?_
        exact tL_law_b2428 h hc he0 he1
      · replace h := if_f h c154
        refine R_icmp_eq_f DL_law_887 c154 ?_
        refine R.sub (L' := []) [] rfl ?_
        cases h
        exact (he1 _ rfl) 890 (List.mem_of_getElem? (i := 19) rfl)
    replace h := if_f h c151
    by_cases c155 : (v6 &&& (iI 63)) = (iI 20)
    · replace h := if_t h c155
      refine R_tabIn (t := 892) DL_law_33 (by rw [c155]; decide) (by rw [c155]; decide) (off := 859) (by rw [c155]; rfl) (by decide) ?_
      refine R_aload DL_law_892 1 rfl ?_
      refine R_aload DL_law_893 0 rfl ?_
      refine R_iload DL_law_894 3 rfl ?_
      refine R_constI DL_law_895 ci_1 ?_
      refine R_iadd DL_law_896 ?_
      obtain ⟨v156, ev156, h⟩ := bind_some h
      refine R_xI DL_law_897 ev156 ?_
      refine R_aload DL_law_898 0 rfl ?_
      refine R_iload DL_law_899 3 rfl ?_
      refine R_constI DL_law_900 ci_2 ?_
      refine R_iadd DL_law_901 ?_
      obtain ⟨v157, ev157, h⟩ := bind_some h
      refine R_xI DL_law_902 ev157 ?_
      obtain ⟨r158, er158, h⟩ := bind_some h
      refine R_cV1 [.int v156, .int v157] DL_law_903 kzvX8_meets ml_RL_98 ⟨Nat.le_of_ble_eq_true rfl, Nat.le_of_ble_eq_true rfl⟩ rfl (Nat.le_of_ble_eq_true rfl) (kX8_meets er158) ?_
      refine R_aload DL_law_906 2 rfl ?_
      refine R_aload DL_law_907 0 rfl ?_
      refine R_iload DL_law_908 3 rfl ?_
      refine R_constI DL_law_909 ci_1 ?_
      refine R_iadd DL_law_910 ?_
      obtain ⟨v159, ev159, h⟩ := bind_some h
      refine R_xI DL_law_911 ev159 ?_
      refine R_aload DL_law_912 0 rfl ?_
      refine R_iload DL_law_913 3 rfl ?_
      refine R_constI DL_law_914 ci_2 ?_
      refine R_iadd DL_law_915 ?_
      obtain ⟨v160, ev160, h⟩ := bind_some h
      refine R_xI DL_law_916 ev160 ?_
      obtain ⟨r161, er161, h⟩ := bind_some h
      refine R_cV1 [.int v159, .int v160] DL_law_917 kzvX9_meets ml_RL_101 ⟨Nat.le_of_ble_eq_true rfl, Nat.le_of_ble_eq_true rfl⟩ rfl (Nat.le_of_ble_eq_true rfl) (kX9_meets er161) ?_
      by_cases c162 : r158.1 = r161.1
      · replace h := if_t h c162
        refine R_icmp_eq_t DL_law_920 c162 ?_
        exact tL_law_b2428 h hc he0 he1
      · replace h := if_f h c162
        refine R_icmp_eq_f DL_law_920 c162 ?_
        refine R.sub (L' := []) [] rfl ?_
        cases h
        exact (he1 _ rfl) 923 (List.mem_of_getElem? (i := 20) rfl)
    replace h := if_f h c155
    by_cases c163 : (v6 &&& (iI 63)) = (iI 21)
    · replace h := if_t h c163
      refine R_tabIn (t := 925) DL_law_33 (by rw [c163]; decide) (by rw [c163]; decide) (off := 892) (by rw [c163]; rfl) (by decide) ?_
      refine R_aload DL_law_925 1 rfl ?_
      refine R_aload DL_law_926 0 rfl ?_
      refine R_iload DL_law_927 3 rfl ?_
      refine R_constI DL_law_928 ci_1 ?_
      refine R_iadd DL_law_929 ?_
      obtain ⟨v164, ev164, h⟩ := bind_some h
      refine R_xI DL_law_930 ev164 ?_
      refine R_aload DL_law_931 0 rfl ?_
      refine R_iload DL_law_932 3 rfl ?_
      refine R_constI DL_law_933 ci_2 ?_
      refine R_iadd DL_law_934 ?_
      obtain ⟨v165, ev165, h⟩ := bind_some h
      refine R_xI DL_law_935 ev165 ?_
      refine R_aload DL_law_936 0 rfl ?_
      refine R_iload DL_law_937 3 rfl ?_
      refine R_constI DL_law_938 ci_3 ?_
      refine R_iadd DL_law_939 ?_
      obtain ⟨v166, ev166, h⟩ := bind_some h
      refine R_xI DL_law_940 ev166 ?_
      obtain ⟨r167, er167, h⟩ := bind_some h
      refine R_cV1 [.int v164, .int v165, .int v166] DL_law_941 kzvX8_over ml_RL_102 ⟨Nat.le_of_ble_eq_true rfl, Nat.le_of_ble_eq_true rfl⟩ rfl (Nat.le_of_ble_eq_true rfl) (kX8_over er167) ?_
      refine R_aload DL_law_944 2 rfl ?_
      refine R_aload DL_law_945 0 rfl ?_
      refine R_iload DL_law_946 3 rfl ?_
      refine R_constI DL_law_947 ci_1 ?_
      refine R_iadd DL_law_948 ?_
      obtain ⟨v168, ev168, h⟩ := bind_some h
      refine R_xI DL_law_949 ev168 ?_
      refine R_aload DL_law_950 0 rfl ?_
      refine R_iload DL_law_951 3 rfl ?_
      refine R_constI DL_law_952 ci_2 ?_
      refine R_iadd DL_law_953 ?_
      obtain ⟨v169, ev169, h⟩ := bind_some h
      refine R_xI DL_law_954 ev169 ?_
      refine R_aload DL_law_955 0 rfl ?_
      refine R_iload DL_law_956 3 rfl ?_
      refine R_constI DL_law_957 ci_3 ?_
      refine R_iadd DL_law_958 ?_
      obtain ⟨v170, ev170, h⟩ := bind_some h
      refine R_xI DL_law_959 ev170 ?_
      obtain ⟨r171, er171, h⟩ := bind_some h
      refine R_cV1 [.int v168, .int v169, .int v170] DL_law_960 kzvX9_over ml_RL_105 ⟨Nat.le_of_ble_eq_true rfl, Nat.le_of_ble_eq_true rfl⟩ rfl (Nat.le_of_ble_eq_true rfl) (kX9_over er171) ?_
      by_cases c172 : r167.1 = r171.1
      · replace h := if_t h c172
        refine R_icmp_eq_t DL_law_963 c172 ?_
        exact tL_law_b2428 h hc he0 he1
      · replace h := if_f h c172
        refine R_icmp_eq_f DL_law_963 c172 ?_
        refine R.sub (L' := []) [] rfl ?_
        cases h
        exact (he1 _ rfl) 966 (List.mem_of_getElem? (i := 21) rfl)
    replace h := if_f h c163
    by_cases c173 : (v6 &&& (iI 63)) = (iI 22)
    · replace h := if_t h c173
      refine R_tabIn (t := 968) DL_law_33 (by rw [c173]; decide) (by rw [c173]; decide) (off := 935) (by rw [c173]; rfl) (by decide) ?_
      refine R_aload DL_law_968 1 rfl ?_
      refine R_aload DL_law_969 0 rfl ?_
      refine R_iload DL_law_970 3 rfl ?_
      refine R_constI DL_law_971 ci_1 ?_
      refine R_iadd DL_law_972 ?_
      obtain ⟨v174, ev174, h⟩ := bind_some h
      refine R_xI DL_law_973 ev174 ?_
      obtain ⟨r175, er175, h⟩ := bind_some h
      refine R_cV1 [.int v174] DL_law_974 kzvX8_grounded ml_RL_106 ⟨Nat.le_of_ble_eq_true rfl, Nat.le_of_ble_eq_true rfl⟩ rfl (Nat.le_of_ble_eq_true rfl) (kX8_grounded er175) ?_
      refine R_aload DL_law_977 2 rfl ?_
      refine R_aload DL_law_978 0 rfl ?_
      refine R_iload DL_law_979 3 rfl ?_
      refine R_constI DL_law_980 ci_1 ?_
      refine R_iadd DL_law_981 ?_
      obtain ⟨v176, ev176, h⟩ := bind_some h
      refine R_xI DL_law_982 ev176 ?_
      obtain ⟨r177, er177, h⟩ := bind_some h
      refine R_cV1 [.int v176] DL_law_983 kzvX9_grounded ml_RL_109 ⟨Nat.le_of_ble_eq_true rfl, Nat.le_of_ble_eq_true rfl⟩ rfl (Nat.le_of_ble_eq_true rfl) (kX9_grounded er177) ?_
      by_cases c178 : r175.1 = r177.1
      · replace h := if_t h c178
        refine R_icmp_eq_t DL_law_986 c178 ?_
        exact tL_law_b2428 h hc he0 he1
      · replace h := if_f h c178
        refine R_icmp_eq_f DL_law_986 c178 ?_
        refine R.sub (L' := []) [] rfl ?_
        cases h
        exact (he1 _ rfl) 989 (List.mem_of_getElem? (i := 22) rfl)
    replace h := if_f h c173
    by_cases c179 : (v6 &&& (iI 63)) = (iI 23)
    · replace h := if_t h c179
      refine R_tabIn (t := 991) DL_law_33 (by rw [c179]; decide) (by rw [c179]; decide) (off := 958) (by rw [c179]; rfl) (by decide) ?_
      refine R_aload DL_law_991 1 rfl ?_
      refine R_aload DL_law_992 0 rfl ?_
      refine R_iload DL_law_993 3 rfl ?_
      refine R_constI DL_law_994 ci_1 ?_
      refine R_iadd DL_law_995 ?_
      obtain ⟨v180, ev180, h⟩ := bind_some h
      refine R_xI DL_law_996 ev180 ?_
      refine R_aload DL_law_997 0 rfl ?_
      refine R_iload DL_law_998 3 rfl ?_
      refine R_constI DL_law_999 ci_2 ?_
      refine R_iadd DL_law_1000 ?_
      obtain ⟨v181, ev181, h⟩ := bind_some h
      refine R_xI DL_law_1001 ev181 ?_
      refine R_aload DL_law_1002 0 rfl ?_
      refine R_iload DL_law_1003 3 rfl ?_
      refine R_constI DL_law_1004 ci_3 ?_
      refine R_iadd DL_law_1005 ?_
      obtain ⟨v182, ev182, h⟩ := bind_some h
      refine R_xI DL_law_1006 ev182 ?_
      refine R_aload DL_law_1007 0 rfl ?_
      refine R_iload DL_law_1008 3 rfl ?_
      refine R_constI DL_law_1009 ci_4 ?_
      refine R_iadd DL_law_1010 ?_
      obtain ⟨v183, ev183, h⟩ := bind_some h
      refine R_xI DL_law_1011 ev183 ?_
      obtain ⟨r184, er184, h⟩ := bind_some h
      refine R_cV1 [.int v180, .int v181, .int v182, .int v183] DL_law_1012 kzvX8_least ml_RL_110 ⟨Nat.le_of_ble_eq_true rfl, Nat.le_of_ble_eq_true rfl⟩ rfl (Nat.le_of_ble_eq_true rfl) (kX8_least er184) ?_
      refine R_aload DL_law_1015 2 rfl ?_
      refine R_aload DL_law_1016 0 rfl ?_
      refine R_iload DL_law_1017 3 rfl ?_
      refine R_constI DL_law_1018 ci_1 ?_
      refine R_iadd DL_law_1019 ?_
      obtain ⟨v185, ev185, h⟩ := bind_some h
      refine R_xI DL_law_1020 ev185 ?_
      refine R_aload DL_law_1021 0 rfl ?_
      refine R_iload DL_law_1022 3 rfl ?_
      refine R_constI DL_law_1023 ci_2 ?_
      refine R_iadd DL_law_1024 ?_
      obtain ⟨v186, ev186, h⟩ := bind_some h
      refine R_xI DL_law_1025 ev186 ?_
      refine R_aload DL_law_1026 0 rfl ?_
      refine R_iload DL_law_1027 3 rfl ?_
      refine R_constI DL_law_1028 ci_3 ?_
      refine R_iadd DL_law_1029 ?_
      obtain ⟨v187, ev187, h⟩ := bind_some h
      refine R_xI DL_law_1030 ev187 ?_
      refine R_aload DL_law_1031 0 rfl ?_
      refine R_iload DL_law_1032 3 rfl ?_
      refine R_constI DL_law_1033 ci_4 ?_
      refine R_iadd DL_law_1034 ?_
      obtain ⟨v188, ev188, h⟩ := bind_some h
      refine R_xI DL_law_1035 ev188 ?_
      obtain ⟨r189, er189, h⟩ := bind_some h
      refine R_cV1 [.int v185, .int v186, .int v187, .int v188] DL_law_1036 kzvX9_least ml_RL_114 ⟨Nat.le_of_ble_eq_true rfl, Nat.le_of_ble_eq_true rfl⟩ rfl (Nat.le_of_ble_eq_true rfl) (kX9_least er189) ?_
      by_cases c190 : r184.1 = r189.1
      · replace h := if_t h c190
        refine R_icmp_eq_t DL_law_1039 c190 ?_
        exact tL_law_b2428 h hc he0 he1
      · replace h := if_f h c190
        refine R_icmp_eq_f DL_law_1039 c190 ?_
        refine R.sub (L' := []) [] rfl ?_
        cases h
        exact (he1 _ rfl) 1042 (List.mem_of_getElem? (i := 23) rfl)
    replace h := if_f h c179
    by_cases c191 : (v6 &&& (iI 63)) = (iI 24)
    · replace h := if_t h c191
      refine R_tabIn (t := 1044) DL_law_33 (by rw [c191]; decide) (by rw [c191]; decide) (off := 1011) (by rw [c191]; rfl) (by decide) ?_
      refine R_aload DL_law_1044 1 rfl ?_
      refine R_aload DL_law_1045 0 rfl ?_
      refine R_iload DL_law_1046 3 rfl ?_
      refine R_constI DL_law_1047 ci_1 ?_
      refine R_iadd DL_law_1048 ?_
      obtain ⟨v192, ev192, h⟩ := bind_some h
      refine R_xI DL_law_1049 ev192 ?_
      refine R_aload DL_law_1050 0 rfl ?_
      refine R_iload DL_law_1051 3 rfl ?_
      refine R_constI DL_law_1052 ci_2 ?_
      refine R_iadd DL_law_1053 ?_
      obtain ⟨v193, ev193, h⟩ := bind_some h
      refine R_xI DL_law_1054 ev193 ?_
      refine R_aload DL_law_1055 0 rfl ?_
      refine R_iload DL_law_1056 3 rfl ?_
      refine R_constI DL_law_1057 ci_3 ?_
      refine R_iadd DL_law_1058 ?_
      obtain ⟨v194, ev194, h⟩ := bind_some h
      refine R_xI DL_law_1059 ev194 ?_
      refine R_aload DL_law_1060 0 rfl ?_
      refine R_iload DL_law_1061 3 rfl ?_
      refine R_constI DL_law_1062 ci_4 ?_
      refine R_iadd DL_law_1063 ?_
      obtain ⟨v195, ev195, h⟩ := bind_some h
      refine R_xI DL_law_1064 ev195 ?_
      obtain ⟨r196, er196, h⟩ := bind_some h
      refine R_cV1 [.int v192, .int v193, .int v194, .int v195] DL_law_1065 kzvX8_soonest ml_RL_115 ⟨Nat.le_of_ble_eq_true rfl, Nat.le_of_ble_eq_true rfl⟩ rfl (Nat.le_of_ble_eq_true rfl) (kX8_soonest er196) ?_
      refine R_aload DL_law_1068 2 rfl ?_
      refine R_aload DL_law_1069 0 rfl ?_
      refine R_iload DL_law_1070 3 rfl ?_
      refine R_constI DL_law_1071 ci_1 ?_
      refine R_iadd DL_law_1072 ?_
      obtain ⟨v197, ev197, h⟩ := bind_some h
      refine R_xI DL_law_1073 ev197 ?_
      refine R_aload DL_law_1074 0 rfl ?_
      refine R_iload DL_law_1075 3 rfl ?_
      refine R_constI DL_law_1076 ci_2 ?_
      refine R_iadd DL_law_1077 ?_
      obtain ⟨v198, ev198, h⟩ := bind_some h
      refine R_xI DL_law_1078 ev198 ?_
      refine R_aload DL_law_1079 0 rfl ?_
      refine R_iload DL_law_1080 3 rfl ?_
      refine R_constI DL_law_1081 ci_3 ?_
      refine R_iadd DL_law_1082 ?_
      obtain ⟨v199, ev199, h⟩ := bind_some h
      refine R_xI DL_law_1083 ev199 ?_
      refine R_aload DL_law_1084 0 rfl ?_
      refine R_iload DL_law_1085 3 rfl ?_
      refine R_constI DL_law_1086 ci_4 ?_
      refine R_iadd DL_law_1087 ?_
      obtain ⟨v200, ev200, h⟩ := bind_some h
      refine R_xI DL_law_1088 ev200 ?_
      obtain ⟨r201, er201, h⟩ := bind_some h
      refine R_cV1 [.int v197, .int v198, .int v199, .int v200] DL_law_1089 kzvX9_soonest ml_RL_118 ⟨Nat.le_of_ble_eq_true rfl, Nat.le_of_ble_eq_true rfl⟩ rfl (Nat.le_of_ble_eq_true rfl) (kX9_soonest er201) ?_
      by_cases c202 : r196.1 = r201.1
      · replace h := if_t h c202
        refine R_icmp_eq_t DL_law_1092 c202 ?_
        exact tL_law_b2428 h hc he0 he1
      · replace h := if_f h c202
        refine R_icmp_eq_f DL_law_1092 c202 ?_
        refine R.sub (L' := []) [] rfl ?_
        cases h
        exact (he1 _ rfl) 1095 (List.mem_of_getElem? (i := 24) rfl)
    replace h := if_f h c191
    by_cases c203 : (v6 &&& (iI 63)) = (iI 25)
    · replace h := if_t h c203
      refine R_tabIn (t := 1097) DL_law_33 (by rw [c203]; decide) (by rw [c203]; decide) (off := 1064) (by rw [c203]; rfl) (by decide) ?_
      refine R_aload DL_law_1097 1 rfl ?_
      refine R_aload DL_law_1098 0 rfl ?_
      refine R_iload DL_law_1099 3 rfl ?_
      refine R_constI DL_law_1100 ci_1 ?_
      refine R_iadd DL_law_1101 ?_
      obtain ⟨v204, ev204, h⟩ := bind_some h
      refine R_xI DL_law_1102 ev204 ?_
      refine R_aload DL_law_1103 0 rfl ?_
      refine R_iload DL_law_1104 3 rfl ?_
      refine R_constI DL_law_1105 ci_2 ?_
      refine R_iadd DL_law_1106 ?_
      obtain ⟨v205, ev205, h⟩ := bind_some h
      refine R_xI DL_law_1107 ev205 ?_
      refine R_aload DL_law_1108 0 rfl ?_
      refine R_iload DL_law_1109 3 rfl ?_
      refine R_constI DL_law_1110 ci_3 ?_
      refine R_iadd DL_law_1111 ?_
      obtain ⟨v206, ev206, h⟩ := bind_some h
      refine R_xI DL_law_1112 ev206 ?_
      refine R_aload DL_law_1113 0 rfl ?_
      refine R_iload DL_law_1114 3 rfl ?_
      refine R_constI DL_law_1115 ci_4 ?_
      refine R_iadd DL_law_1116 ?_
      obtain ⟨v207, ev207, h⟩ := bind_some h
      refine R_xI DL_law_1117 ev207 ?_
      refine R_aload DL_law_1118 0 rfl ?_
      refine R_iload DL_law_1119 3 rfl ?_
      refine R_constI DL_law_1120 ci_5 ?_
      refine R_iadd DL_law_1121 ?_
      obtain ⟨v208, ev208, h⟩ := bind_some h
      refine R_xI DL_law_1122 ev208 ?_
      obtain ⟨r209, er209, h⟩ := bind_some h
      refine R_cV1 [.int v204, .int v205, .int v206, .int v207, .int v208] DL_law_1123 kzvX8_way ml_RL_119 ⟨Nat.le_of_ble_eq_true rfl, Nat.le_of_ble_eq_true rfl⟩ rfl (Nat.le_of_ble_eq_true rfl) (kX8_way er209) ?_
      refine R_aload DL_law_1126 2 rfl ?_
      refine R_aload DL_law_1127 0 rfl ?_
      refine R_iload DL_law_1128 3 rfl ?_
      refine R_constI DL_law_1129 ci_1 ?_
      refine R_iadd DL_law_1130 ?_
      obtain ⟨v210, ev210, h⟩ := bind_some h
      refine R_xI DL_law_1131 ev210 ?_
      refine R_aload DL_law_1132 0 rfl ?_
      refine R_iload DL_law_1133 3 rfl ?_
      refine R_constI DL_law_1134 ci_2 ?_
      refine R_iadd DL_law_1135 ?_
      obtain ⟨v211, ev211, h⟩ := bind_some h
      refine R_xI DL_law_1136 ev211 ?_
      refine R_aload DL_law_1137 0 rfl ?_
      refine R_iload DL_law_1138 3 rfl ?_
      refine R_constI DL_law_1139 ci_3 ?_
      refine R_iadd DL_law_1140 ?_
      obtain ⟨v212, ev212, h⟩ := bind_some h
      refine R_xI DL_law_1141 ev212 ?_
      refine R_aload DL_law_1142 0 rfl ?_
      refine R_iload DL_law_1143 3 rfl ?_
      refine R_constI DL_law_1144 ci_4 ?_
      refine R_iadd DL_law_1145 ?_
      obtain ⟨v213, ev213, h⟩ := bind_some h
      refine R_xI DL_law_1146 ev213 ?_
      refine R_aload DL_law_1147 0 rfl ?_
      refine R_iload DL_law_1148 3 rfl ?_
      refine R_constI DL_law_1149 ci_5 ?_
      refine R_iadd DL_law_1150 ?_
      obtain ⟨v214, ev214, h⟩ := bind_some h
      refine R_xI DL_law_1151 ev214 ?_
      obtain ⟨r215, er215, h⟩ := bind_some h
      refine R_cV1 [.int v210, .int v211, .int v212, .int v213, .int v214] DL_law_1152 kzvX9_way ml_RL_122 ⟨Nat.le_of_ble_eq_true rfl, Nat.le_of_ble_eq_true rfl⟩ rfl (Nat.le_of_ble_eq_true rfl) (kX9_way er215) ?_
      by_cases c216 : r209.1 = r215.1
      · replace h := if_t h c216
        refine R_icmp_eq_t DL_law_1155 c216 ?_
        exact tL_law_b2428 h hc he0 he1
      · replace h := if_f h c216
        refine R_icmp_eq_f DL_law_1155 c216 ?_
        refine R.sub (L' := []) [] rfl ?_
        cases h
        exact (he1 _ rfl) 1158 (List.mem_of_getElem? (i := 25) rfl)
    replace h := if_f h c203
    by_cases c217 : (v6 &&& (iI 63)) = (iI 26)
    · replace h := if_t h c217
      refine R_tabIn (t := 1160) DL_law_33 (by rw [c217]; decide) (by rw [c217]; decide) (off := 1127) (by rw [c217]; rfl) (by decide) ?_
      refine R_aload DL_law_1160 1 rfl ?_
      refine R_aload DL_law_1161 0 rfl ?_
      refine R_iload DL_law_1162 3 rfl ?_
      refine R_constI DL_law_1163 ci_1 ?_
      refine R_iadd DL_law_1164 ?_
      obtain ⟨v218, ev218, h⟩ := bind_some h
      refine R_xI DL_law_1165 ev218 ?_
      refine R_aload DL_law_1166 0 rfl ?_
      refine R_iload DL_law_1167 3 rfl ?_
      refine R_constI DL_law_1168 ci_2 ?_
      refine R_iadd DL_law_1169 ?_
      obtain ⟨v219, ev219, h⟩ := bind_some h
      refine R_xI DL_law_1170 ev219 ?_
      obtain ⟨r220, er220, h⟩ := bind_some h
      refine R_cV1 [.int v218, .int v219] DL_law_1171 kzvX8_spots ml_RL_123 ⟨Nat.le_of_ble_eq_true rfl, Nat.le_of_ble_eq_true rfl⟩ rfl (Nat.le_of_ble_eq_true rfl) (kX8_spots er220) ?_
      refine R_aload DL_law_1174 2 rfl ?_
      refine R_aload DL_law_1175 0 rfl ?_
      refine R_iload DL_law_1176 3 rfl ?_
      refine R_constI DL_law_1177 ci_1 ?_
      refine R_iadd DL_law_1178 ?_
      obtain ⟨v221, ev221, h⟩ := bind_some h
      refine R_xI DL_law_1179 ev221 ?_
      refine R_aload DL_law_1180 0 rfl ?_
      refine R_iload DL_law_1181 3 rfl ?_
      refine R_constI DL_law_1182 ci_2 ?_
      refine R_iadd DL_law_1183 ?_
      obtain ⟨v222, ev222, h⟩ := bind_some h
      refine R_xI DL_law_1184 ev222 ?_
      obtain ⟨r223, er223, h⟩ := bind_some h
      refine R_cV1 [.int v221, .int v222] DL_law_1185 kzvX9_spots ml_RL_126 ⟨Nat.le_of_ble_eq_true rfl, Nat.le_of_ble_eq_true rfl⟩ rfl (Nat.le_of_ble_eq_true rfl) (kX9_spots er223) ?_
      by_cases c224 : r220.1 = r223.1
      · replace h := if_t h c224
        refine R_icmp_eq_t DL_law_1188 c224 ?_
        exact tL_law_b2428 h hc he0 he1
      · replace h := if_f h c224
        refine R_icmp_eq_f DL_law_1188 c224 ?_
        refine R.sub (L' := []) [] rfl ?_
        cases h
        exact (he1 _ rfl) 1191 (List.mem_of_getElem? (i := 26) rfl)
    replace h := if_f h c217
    by_cases c225 : (v6 &&& (iI 63)) = (iI 27)
    · replace h := if_t h c225
      refine R_tabIn (t := 1193) DL_law_33 (by rw [c225]; decide) (by rw [c225]; decide) (off := 1160) (by rw [c225]; rfl) (by decide) ?_
      refine R_aload DL_law_1193 1 rfl ?_
      refine R_aload DL_law_1194 0 rfl ?_
      refine R_iload DL_law_1195 3 rfl ?_
      refine R_constI DL_law_1196 ci_1 ?_
      refine R_iadd DL_law_1197 ?_
      obtain ⟨v226, ev226, h⟩ := bind_some h
      refine R_xI DL_law_1198 ev226 ?_
      refine R_aload DL_law_1199 0 rfl ?_
      refine R_iload DL_law_1200 3 rfl ?_
      refine R_constI DL_law_1201 ci_2 ?_
      refine R_iadd DL_law_1202 ?_
      obtain ⟨v227, ev227, h⟩ := bind_some h
      refine R_xI DL_law_1203 ev227 ?_
      obtain ⟨r228, er228, h⟩ := bind_some h
      refine R_cV1 [.int v226, .int v227] DL_law_1204 kzvX8_columns ml_RL_127 ⟨Nat.le_of_ble_eq_true rfl, Nat.le_of_ble_eq_true rfl⟩ rfl (Nat.le_of_ble_eq_true rfl) (kX8_columns er228) ?_
      refine R_aload DL_law_1207 2 rfl ?_
      refine R_aload DL_law_1208 0 rfl ?_
      refine R_iload DL_law_1209 3 rfl ?_
      refine R_constI DL_law_1210 ci_1 ?_
      refine R_iadd DL_law_1211 ?_
      obtain ⟨v229, ev229, h⟩ := bind_some h
      refine R_xI DL_law_1212 ev229 ?_
      refine R_aload DL_law_1213 0 rfl ?_
      refine R_iload DL_law_1214 3 rfl ?_
      refine R_constI DL_law_1215 ci_2 ?_
      refine R_iadd DL_law_1216 ?_
      obtain ⟨v230, ev230, h⟩ := bind_some h
      refine R_xI DL_law_1217 ev230 ?_
      obtain ⟨r231, er231, h⟩ := bind_some h
      refine R_cV1 [.int v229, .int v230] DL_law_1218 kzvX9_columns ml_RL_130 ⟨Nat.le_of_ble_eq_true rfl, Nat.le_of_ble_eq_true rfl⟩ rfl (Nat.le_of_ble_eq_true rfl) (kX9_columns er231) ?_
      by_cases c232 : r228.1 = r231.1
      · replace h := if_t h c232
        refine R_icmp_eq_t DL_law_1221 c232 ?_
        exact tL_law_b2428 h hc he0 he1
      · replace h := if_f h c232
        refine R_icmp_eq_f DL_law_1221 c232 ?_
        refine R.sub (L' := []) [] rfl ?_
        cases h
        exact (he1 _ rfl) 1224 (List.mem_of_getElem? (i := 27) rfl)
    replace h := if_f h c225
    by_cases c233 : (v6 &&& (iI 63)) = (iI 28)
    · replace h := if_t h c233
      refine R_tabIn (t := 1226) DL_law_33 (by rw [c233]; decide) (by rw [c233]; decide) (off := 1193) (by rw [c233]; rfl) (by decide) ?_
      refine R_aload DL_law_1226 1 rfl ?_
      refine R_aload DL_law_1227 0 rfl ?_
      refine R_iload DL_law_1228 3 rfl ?_
      refine R_constI DL_law_1229 ci_1 ?_
      refine R_iadd DL_law_1230 ?_
      obtain ⟨v234, ev234, h⟩ := bind_some h
      refine R_xI DL_law_1231 ev234 ?_
      refine R_aload DL_law_1232 0 rfl ?_
      refine R_iload DL_law_1233 3 rfl ?_
      refine R_constI DL_law_1234 ci_2 ?_
      refine R_iadd DL_law_1235 ?_
      obtain ⟨v235, ev235, h⟩ := bind_some h
      refine R_xI DL_law_1236 ev235 ?_
      obtain ⟨r236, er236, h⟩ := bind_some h
      refine R_cV1 [.int v234, .int v235] DL_law_1237 kzvX8_ways ml_RL_131 ⟨Nat.le_of_ble_eq_true rfl, Nat.le_of_ble_eq_true rfl⟩ rfl (Nat.le_of_ble_eq_true rfl) (kX8_ways er236) ?_
      refine R_aload DL_law_1240 2 rfl ?_
      refine R_aload DL_law_1241 0 rfl ?_
      refine R_iload DL_law_1242 3 rfl ?_
      refine R_constI DL_law_1243 ci_1 ?_
      refine R_iadd DL_law_1244 ?_
      obtain ⟨v237, ev237, h⟩ := bind_some h
      refine R_xI DL_law_1245 ev237 ?_
      refine R_aload DL_law_1246 0 rfl ?_
      refine R_iload DL_law_1247 3 rfl ?_
      refine R_constI DL_law_1248 ci_2 ?_
      refine R_iadd DL_law_1249 ?_
      obtain ⟨v238, ev238, h⟩ := bind_some h
      refine R_xI DL_law_1250 ev238 ?_
      obtain ⟨r239, er239, h⟩ := bind_some h
      refine R_cV1 [.int v237, .int v238] DL_law_1251 kzvX9_ways ml_RL_135 ⟨Nat.le_of_ble_eq_true rfl, Nat.le_of_ble_eq_true rfl⟩ rfl (Nat.le_of_ble_eq_true rfl) (kX9_ways er239) ?_
      refine R_lcmp DL_law_1254 ?_
      by_cases c240 : (lg_cmp r236.1 r239.1) = 0
      · replace h := if_t h c240
        refine R_if_eq_t DL_law_1255 c240 ?_
        exact tL_law_b2428 h hc he0 he1
      · replace h := if_f h c240
        refine R_if_eq_f DL_law_1255 c240 ?_
        refine R.sub (L' := []) [] rfl ?_
        cases h
        exact (he1 _ rfl) 1258 (List.mem_of_getElem? (i := 28) rfl)
    replace h := if_f h c233
    by_cases c241 : (v6 &&& (iI 63)) = (iI 29)
    · replace h := if_t h c241
      refine R_tabIn (t := 1260) DL_law_33 (by rw [c241]; decide) (by rw [c241]; decide) (off := 1227) (by rw [c241]; rfl) (by decide) ?_
      refine R_aload DL_law_1260 1 rfl ?_
      refine R_aload DL_law_1261 0 rfl ?_
      refine R_iload DL_law_1262 3 rfl ?_
      refine R_constI DL_law_1263 ci_1 ?_
      refine R_iadd DL_law_1264 ?_
      obtain ⟨v242, ev242, h⟩ := bind_some h
      refine R_xI DL_law_1265 ev242 ?_
      refine R_aload DL_law_1266 0 rfl ?_
      refine R_iload DL_law_1267 3 rfl ?_
      refine R_constI DL_law_1268 ci_2 ?_
      refine R_iadd DL_law_1269 ?_
      obtain ⟨v243, ev243, h⟩ := bind_some h
      refine R_xI DL_law_1270 ev243 ?_
      obtain ⟨r244, er244, h⟩ := bind_some h
      refine R_cV1 [.int v242, .int v243] DL_law_1271 kzvX8_tour ml_RL_136 ⟨Nat.le_of_ble_eq_true rfl, Nat.le_of_ble_eq_true rfl⟩ rfl (Nat.le_of_ble_eq_true rfl) (kX8_tour er244) ?_
      refine R_aload DL_law_1274 2 rfl ?_
      refine R_aload DL_law_1275 0 rfl ?_
      refine R_iload DL_law_1276 3 rfl ?_
      refine R_constI DL_law_1277 ci_1 ?_
      refine R_iadd DL_law_1278 ?_
      obtain ⟨v245, ev245, h⟩ := bind_some h
      refine R_xI DL_law_1279 ev245 ?_
      refine R_aload DL_law_1280 0 rfl ?_
      refine R_iload DL_law_1281 3 rfl ?_
      refine R_constI DL_law_1282 ci_2 ?_
      refine R_iadd DL_law_1283 ?_
      obtain ⟨v246, ev246, h⟩ := bind_some h
      refine R_xI DL_law_1284 ev246 ?_
      obtain ⟨r247, er247, h⟩ := bind_some h
      refine R_cV1 [.int v245, .int v246] DL_law_1285 kzvX9_tour ml_RL_139 ⟨Nat.le_of_ble_eq_true rfl, Nat.le_of_ble_eq_true rfl⟩ rfl (Nat.le_of_ble_eq_true rfl) (kX9_tour er247) ?_
      by_cases c248 : r244.1 = r247.1
      · replace h := if_t h c248
        refine R_icmp_eq_t DL_law_1288 c248 ?_
        exact tL_law_b2428 h hc he0 he1
      · replace h := if_f h c248
        refine R_icmp_eq_f DL_law_1288 c248 ?_
        refine R.sub (L' := []) [] rfl ?_
        cases h
        exact (he1 _ rfl) 1291 (List.mem_of_getElem? (i := 29) rfl)
    replace h := if_f h c241
    by_cases c249 : (v6 &&& (iI 63)) = (iI 30)
    · replace h := if_t h c249
      refine R_tabIn (t := 1293) DL_law_33 (by rw [c249]; decide) (by rw [c249]; decide) (off := 1260) (by rw [c249]; rfl) (by decide) ?_
      refine R_aload DL_law_1293 1 rfl ?_
      refine R_aload DL_law_1294 0 rfl ?_
      refine R_iload DL_law_1295 3 rfl ?_
      refine R_constI DL_law_1296 ci_1 ?_
      refine R_iadd DL_law_1297 ?_
      obtain ⟨v250, ev250, h⟩ := bind_some h
      refine R_xI DL_law_1298 ev250 ?_
      refine R_aload DL_law_1299 0 rfl ?_
      refine R_iload DL_law_1300 3 rfl ?_
      refine R_constI DL_law_1301 ci_2 ?_
      refine R_iadd DL_law_1302 ?_
      obtain ⟨v251, ev251, h⟩ := bind_some h
      refine R_xI DL_law_1303 ev251 ?_
      obtain ⟨r252, er252, h⟩ := bind_some h
      refine R_cV1 [.int v250, .int v251] DL_law_1304 kzvX8_done ml_RL_140 ⟨Nat.le_of_ble_eq_true rfl, Nat.le_of_ble_eq_true rfl⟩ rfl (Nat.le_of_ble_eq_true rfl) (kX8_done er252) ?_
      refine R_aload DL_law_1307 2 rfl ?_
      refine R_aload DL_law_1308 0 rfl ?_
      refine R_iload DL_law_1309 3 rfl ?_
      refine R_constI DL_law_1310 ci_1 ?_
      refine R_iadd DL_law_1311 ?_
      obtain ⟨v253, ev253, h⟩ := bind_some h
      refine R_xI DL_law_1312 ev253 ?_
      refine R_aload DL_law_1313 0 rfl ?_
      refine R_iload DL_law_1314 3 rfl ?_
      refine R_constI DL_law_1315 ci_2 ?_
      refine R_iadd DL_law_1316 ?_
      obtain ⟨v254, ev254, h⟩ := bind_some h
      refine R_xI DL_law_1317 ev254 ?_
      obtain ⟨r255, er255, h⟩ := bind_some h
      refine R_cV1 [.int v253, .int v254] DL_law_1318 kzvX9_done ml_RL_143 ⟨Nat.le_of_ble_eq_true rfl, Nat.le_of_ble_eq_true rfl⟩ rfl (Nat.le_of_ble_eq_true rfl) (kX9_done er255) ?_
      by_cases c256 : r252.1 = r255.1
      · replace h := if_t h c256
        refine R_icmp_eq_t DL_law_1321 c256 ?_
        exact tL_law_b2428 h hc he0 he1
      · replace h := if_f h c256
        refine R_icmp_eq_f DL_law_1321 c256 ?_
        refine R.sub (L' := []) [] rfl ?_
        cases h
        exact (he1 _ rfl) 1324 (List.mem_of_getElem? (i := 30) rfl)
    replace h := if_f h c249
    by_cases c257 : (v6 &&& (iI 63)) = (iI 31)
    · replace h := if_t h c257
      refine R_tabIn (t := 1326) DL_law_33 (by rw [c257]; decide) (by rw [c257]; decide) (off := 1293) (by rw [c257]; rfl) (by decide) ?_
      refine R_aload DL_law_1326 1 rfl ?_
      refine R_aload DL_law_1327 0 rfl ?_
      refine R_iload DL_law_1328 3 rfl ?_
      refine R_constI DL_law_1329 ci_1 ?_
      refine R_iadd DL_law_1330 ?_
      obtain ⟨v258, ev258, h⟩ := bind_some h
      refine R_xI DL_law_1331 ev258 ?_
      refine R_aload DL_law_1332 0 rfl ?_
      refine R_iload DL_law_1333 3 rfl ?_
      refine R_constI DL_law_1334 ci_2 ?_
      refine R_iadd DL_law_1335 ?_
      obtain ⟨v259, ev259, h⟩ := bind_some h
      refine R_xI DL_law_1336 ev259 ?_
      refine R_aload DL_law_1337 0 rfl ?_
      refine R_iload DL_law_1338 3 rfl ?_
      refine R_constI DL_law_1339 ci_3 ?_
      refine R_iadd DL_law_1340 ?_
      obtain ⟨v260, ev260, h⟩ := bind_some h
      refine R_xI DL_law_1341 ev260 ?_
      obtain ⟨r261, er261, h⟩ := bind_some h
      refine R_cV1 [.int v258, .int v259, .int v260] DL_law_1342 kzvX8_doors ml_RL_144 ⟨Nat.le_of_ble_eq_true rfl, Nat.le_of_ble_eq_true rfl⟩ rfl (Nat.le_of_ble_eq_true rfl) (kX8_doors er261) ?_
      refine R_aload DL_law_1345 2 rfl ?_
      refine R_aload DL_law_1346 0 rfl ?_
      refine R_iload DL_law_1347 3 rfl ?_
      refine R_constI DL_law_1348 ci_1 ?_
      refine R_iadd DL_law_1349 ?_
      obtain ⟨v262, ev262, h⟩ := bind_some h
      refine R_xI DL_law_1350 ev262 ?_
      refine R_aload DL_law_1351 0 rfl ?_
      refine R_iload DL_law_1352 3 rfl ?_
      refine R_constI DL_law_1353 ci_2 ?_
      refine R_iadd DL_law_1354 ?_
      obtain ⟨v263, ev263, h⟩ := bind_some h
      refine R_xI DL_law_1355 ev263 ?_
      refine R_aload DL_law_1356 0 rfl ?_
      refine R_iload DL_law_1357 3 rfl ?_
      refine R_constI DL_law_1358 ci_3 ?_
      refine R_iadd DL_law_1359 ?_
      obtain ⟨v264, ev264, h⟩ := bind_some h
      refine R_xI DL_law_1360 ev264 ?_
      obtain ⟨r265, er265, h⟩ := bind_some h
      refine R_cV1 [.int v262, .int v263, .int v264] DL_law_1361 kzvX9_doors ml_RL_147 ⟨Nat.le_of_ble_eq_true rfl, Nat.le_of_ble_eq_true rfl⟩ rfl (Nat.le_of_ble_eq_true rfl) (kX9_doors er265) ?_
      by_cases c266 : r261.1 = r265.1
      · replace h := if_t h c266
        refine R_icmp_eq_t DL_law_1364 c266 ?_
        exact tL_law_b2428 h hc he0 he1
      · replace h := if_f h c266
        refine R_icmp_eq_f DL_law_1364 c266 ?_
        refine R.sub (L' := []) [] rfl ?_
        cases h
        exact (he1 _ rfl) 1367 (List.mem_of_getElem? (i := 31) rfl)
    replace h := if_f h c257
    by_cases c267 : (v6 &&& (iI 63)) = (iI 32)
    · replace h := if_t h c267
      refine R_tabIn (t := 1369) DL_law_33 (by rw [c267]; decide) (by rw [c267]; decide) (off := 1336) (by rw [c267]; rfl) (by decide) ?_
      refine R_aload DL_law_1369 1 rfl ?_
      refine R_aload DL_law_1370 0 rfl ?_
      refine R_iload DL_law_1371 3 rfl ?_
      refine R_constI DL_law_1372 ci_1 ?_
      refine R_iadd DL_law_1373 ?_
      obtain ⟨v268, ev268, h⟩ := bind_some h
      refine R_xI DL_law_1374 ev268 ?_
      obtain ⟨r269, er269, h⟩ := bind_some h
      refine R_cV1 [.int v268] DL_law_1375 kzvX8_fair ml_RL_148 ⟨Nat.le_of_ble_eq_true rfl, Nat.le_of_ble_eq_true rfl⟩ rfl (Nat.le_of_ble_eq_true rfl) (kX8_fair er269) ?_
      refine R_aload DL_law_1378 2 rfl ?_
      refine R_aload DL_law_1379 0 rfl ?_
      refine R_iload DL_law_1380 3 rfl ?_
      refine R_constI DL_law_1381 ci_1 ?_
      refine R_iadd DL_law_1382 ?_
      obtain ⟨v270, ev270, h⟩ := bind_some h
      refine R_xI DL_law_1383 ev270 ?_
      obtain ⟨r271, er271, h⟩ := bind_some h
      refine R_cV1 [.int v270] DL_law_1384 kzvX9_fair ml_RL_151 ⟨Nat.le_of_ble_eq_true rfl, Nat.le_of_ble_eq_true rfl⟩ rfl (Nat.le_of_ble_eq_true rfl) (kX9_fair er271) ?_
      by_cases c272 : r269.1 = r271.1
      · replace h := if_t h c272
        refine R_icmp_eq_t DL_law_1387 c272 ?_
        exact tL_law_b2428 h hc he0 he1
      · replace h := if_f h c272
        refine R_icmp_eq_f DL_law_1387 c272 ?_
        refine R.sub (L' := []) [] rfl ?_
        cases h
        exact (he1 _ rfl) 1390 (List.mem_of_getElem? (i := 32) rfl)
    replace h := if_f h c267
    by_cases c273 : (v6 &&& (iI 63)) = (iI 33)
    · replace h := if_t h c273
      refine R_tabIn (t := 1392) DL_law_33 (by rw [c273]; decide) (by rw [c273]; decide) (off := 1359) (by rw [c273]; rfl) (by decide) ?_
      refine R_aload DL_law_1392 1 rfl ?_
      refine R_aload DL_law_1393 0 rfl ?_
      refine R_iload DL_law_1394 3 rfl ?_
      refine R_constI DL_law_1395 ci_1 ?_
      refine R_iadd DL_law_1396 ?_
      obtain ⟨v274, ev274, h⟩ := bind_some h
      refine R_xI DL_law_1397 ev274 ?_
      obtain ⟨r275, er275, h⟩ := bind_some h
      refine R_cV1 [.int v274] DL_law_1398 kzvX8_aloft ml_RL_152 ⟨Nat.le_of_ble_eq_true rfl, Nat.le_of_ble_eq_true rfl⟩ rfl (Nat.le_of_ble_eq_true rfl) (kX8_aloft er275) ?_
      refine R_aload DL_law_1401 2 rfl ?_
      refine R_aload DL_law_1402 0 rfl ?_
      refine R_iload DL_law_1403 3 rfl ?_
      refine R_constI DL_law_1404 ci_1 ?_
      refine R_iadd DL_law_1405 ?_
      obtain ⟨v276, ev276, h⟩ := bind_some h
      refine R_xI DL_law_1406 ev276 ?_
      obtain ⟨r277, er277, h⟩ := bind_some h
      refine R_cV1 [.int v276] DL_law_1407 kzvX9_aloft ml_RL_155 ⟨Nat.le_of_ble_eq_true rfl, Nat.le_of_ble_eq_true rfl⟩ rfl (Nat.le_of_ble_eq_true rfl) (kX9_aloft er277) ?_
      by_cases c278 : r275.1 = r277.1
      · replace h := if_t h c278
        refine R_icmp_eq_t DL_law_1410 c278 ?_
        exact tL_law_b2428 h hc he0 he1
      · replace h := if_f h c278
        refine R_icmp_eq_f DL_law_1410 c278 ?_
        refine R.sub (L' := []) [] rfl ?_
        cases h
        exact (he1 _ rfl) 1413 (List.mem_of_getElem? (i := 33) rfl)
    replace h := if_f h c273
    by_cases c279 : (v6 &&& (iI 63)) = (iI 34)
    · replace h := if_t h c279
      refine R_tabIn (t := 1415) DL_law_33 (by rw [c279]; decide) (by rw [c279]; decide) (off := 1382) (by rw [c279]; rfl) (by decide) ?_
      refine R_aload DL_law_1415 1 rfl ?_
      refine R_aload DL_law_1416 0 rfl ?_
      refine R_iload DL_law_1417 3 rfl ?_
      refine R_constI DL_law_1418 ci_1 ?_
      refine R_iadd DL_law_1419 ?_
      obtain ⟨v280, ev280, h⟩ := bind_some h
      refine R_xI DL_law_1420 ev280 ?_
      obtain ⟨r281, er281, h⟩ := bind_some h
      refine R_cV1 [.int v280] DL_law_1421 kzvX8_lasts ml_RL_156 ⟨Nat.le_of_ble_eq_true rfl, Nat.le_of_ble_eq_true rfl⟩ rfl (Nat.le_of_ble_eq_true rfl) (kX8_lasts er281) ?_
      refine R_aload DL_law_1424 2 rfl ?_
      refine R_aload DL_law_1425 0 rfl ?_
      refine R_iload DL_law_1426 3 rfl ?_
      refine R_constI DL_law_1427 ci_1 ?_
      refine R_iadd DL_law_1428 ?_
      obtain ⟨v282, ev282, h⟩ := bind_some h
      refine R_xI DL_law_1429 ev282 ?_
      obtain ⟨r283, er283, h⟩ := bind_some h
      refine R_cV1 [.int v282] DL_law_1430 kzvX9_lasts ml_RL_159 ⟨Nat.le_of_ble_eq_true rfl, Nat.le_of_ble_eq_true rfl⟩ rfl (Nat.le_of_ble_eq_true rfl) (kX9_lasts er283) ?_
      by_cases c284 : r281.1 = r283.1
      · replace h := if_t h c284
        refine R_icmp_eq_t DL_law_1433 c284 ?_
        exact tL_law_b2428 h hc he0 he1
      · replace h := if_f h c284
        refine R_icmp_eq_f DL_law_1433 c284 ?_
        refine R.sub (L' := []) [] rfl ?_
        cases h
        exact (he1 _ rfl) 1436 (List.mem_of_getElem? (i := 34) rfl)
    replace h := if_f h c279
    by_cases c285 : (v6 &&& (iI 63)) = (iI 35)
    · replace h := if_t h c285
      refine R_tabIn (t := 1438) DL_law_33 (by rw [c285]; decide) (by rw [c285]; decide) (off := 1405) (by rw [c285]; rfl) (by decide) ?_
      refine R_aload DL_law_1438 1 rfl ?_
      refine R_aload DL_law_1439 0 rfl ?_
      refine R_iload DL_law_1440 3 rfl ?_
      refine R_constI DL_law_1441 ci_1 ?_
      refine R_iadd DL_law_1442 ?_
      obtain ⟨v286, ev286, h⟩ := bind_some h
      refine R_xI DL_law_1443 ev286 ?_
      refine R_aload DL_law_1444 0 rfl ?_
      refine R_iload DL_law_1445 3 rfl ?_
      refine R_constI DL_law_1446 ci_2 ?_
      refine R_iadd DL_law_1447 ?_
      obtain ⟨v287, ev287, h⟩ := bind_some h
      refine R_xI DL_law_1448 ev287 ?_
      obtain ⟨r288, er288, h⟩ := bind_some h
      refine R_cV1 [.int v286, .int v287] DL_law_1449 kzvX8_meet ml_RL_160 ⟨Nat.le_of_ble_eq_true rfl, Nat.le_of_ble_eq_true rfl⟩ rfl (Nat.le_of_ble_eq_true rfl) (kX8_meet er288) ?_
      refine R_aload DL_law_1452 2 rfl ?_
      refine R_aload DL_law_1453 0 rfl ?_
      refine R_iload DL_law_1454 3 rfl ?_
      refine R_constI DL_law_1455 ci_1 ?_
      refine R_iadd DL_law_1456 ?_
      obtain ⟨v289, ev289, h⟩ := bind_some h
      refine R_xI DL_law_1457 ev289 ?_
      refine R_aload DL_law_1458 0 rfl ?_
      refine R_iload DL_law_1459 3 rfl ?_
      refine R_constI DL_law_1460 ci_2 ?_
      refine R_iadd DL_law_1461 ?_
      obtain ⟨v290, ev290, h⟩ := bind_some h
      refine R_xI DL_law_1462 ev290 ?_
      obtain ⟨r291, er291, h⟩ := bind_some h
      refine R_cV1 [.int v289, .int v290] DL_law_1463 kzvX9_meet ml_RL_163 ⟨Nat.le_of_ble_eq_true rfl, Nat.le_of_ble_eq_true rfl⟩ rfl (Nat.le_of_ble_eq_true rfl) (kX9_meet er291) ?_
      by_cases c292 : r288.1 = r291.1
      · replace h := if_t h c292
        refine R_icmp_eq_t DL_law_1466 c292 ?_
        exact tL_law_b2428 h hc he0 he1
      · replace h := if_f h c292
        refine R_icmp_eq_f DL_law_1466 c292 ?_
        refine R.sub (L' := []) [] rfl ?_
        cases h
        exact (he1 _ rfl) 1469 (List.mem_of_getElem? (i := 35) rfl)
    replace h := if_f h c285
    by_cases c293 : (v6 &&& (iI 63)) = (iI 36)
    · replace h := if_t h c293
      refine R_tabIn (t := 1471) DL_law_33 (by rw [c293]; decide) (by rw [c293]; decide) (off := 1438) (by rw [c293]; rfl) (by decide) ?_
      refine R_aload DL_law_1471 1 rfl ?_
      refine R_aload DL_law_1472 0 rfl ?_
      refine R_iload DL_law_1473 3 rfl ?_
      refine R_constI DL_law_1474 ci_1 ?_
      refine R_iadd DL_law_1475 ?_
      obtain ⟨v294, ev294, h⟩ := bind_some h
      refine R_xI DL_law_1476 ev294 ?_
      refine R_aload DL_law_1477 0 rfl ?_
      refine R_iload DL_law_1478 3 rfl ?_
      refine R_constI DL_law_1479 ci_2 ?_
      refine R_iadd DL_law_1480 ?_
      obtain ⟨v295, ev295, h⟩ := bind_some h
      refine R_xI DL_law_1481 ev295 ?_
      obtain ⟨r296, er296, h⟩ := bind_some h
      refine R_cV1 [.int v294, .int v295] DL_law_1482 kzvX8_rope ml_RL_164 ⟨Nat.le_of_ble_eq_true rfl, Nat.le_of_ble_eq_true rfl⟩ rfl (Nat.le_of_ble_eq_true rfl) (kX8_rope er296) ?_
      refine R_aload DL_law_1485 2 rfl ?_
      refine R_aload DL_law_1486 0 rfl ?_
      refine R_iload DL_law_1487 3 rfl ?_
      refine R_constI DL_law_1488 ci_1 ?_
      refine R_iadd DL_law_1489 ?_
      obtain ⟨v297, ev297, h⟩ := bind_some h
      refine R_xI DL_law_1490 ev297 ?_
      refine R_aload DL_law_1491 0 rfl ?_
      refine R_iload DL_law_1492 3 rfl ?_
      refine R_constI DL_law_1493 ci_2 ?_
      refine R_iadd DL_law_1494 ?_
      obtain ⟨v298, ev298, h⟩ := bind_some h
      refine R_xI DL_law_1495 ev298 ?_
      obtain ⟨r299, er299, h⟩ := bind_some h
      refine R_cV1 [.int v297, .int v298] DL_law_1496 kzvX9_rope ml_RL_167 ⟨Nat.le_of_ble_eq_true rfl, Nat.le_of_ble_eq_true rfl⟩ rfl (Nat.le_of_ble_eq_true rfl) (kX9_rope er299) ?_
      by_cases c300 : r296.1 = r299.1
      · replace h := if_t h c300
        refine R_icmp_eq_t DL_law_1499 c300 ?_
        exact tL_law_b2428 h hc he0 he1
      · replace h := if_f h c300
        refine R_icmp_eq_f DL_law_1499 c300 ?_
        refine R.sub (L' := []) [] rfl ?_
        cases h
        exact (he1 _ rfl) 1502 (List.mem_of_getElem? (i := 36) rfl)
    replace h := if_f h c293
    by_cases c301 : (v6 &&& (iI 63)) = (iI 37)
    · replace h := if_t h c301
      refine R_tabIn (t := 1504) DL_law_33 (by rw [c301]; decide) (by rw [c301]; decide) (off := 1471) (by rw [c301]; rfl) (by decide) ?_
      refine R_aload DL_law_1504 1 rfl ?_
      refine R_aload DL_law_1505 0 rfl ?_
      refine R_iload DL_law_1506 3 rfl ?_
      refine R_constI DL_law_1507 ci_1 ?_
      refine R_iadd DL_law_1508 ?_
      obtain ⟨v302, ev302, h⟩ := bind_some h
      refine R_xI DL_law_1509 ev302 ?_
      refine R_aload DL_law_1510 0 rfl ?_
      refine R_iload DL_law_1511 3 rfl ?_
      refine R_constI DL_law_1512 ci_2 ?_
      refine R_iadd DL_law_1513 ?_
      obtain ⟨v303, ev303, h⟩ := bind_some h
      refine R_xI DL_law_1514 ev303 ?_
      obtain ⟨r304, er304, h⟩ := bind_some h
      refine R_cV1 [.int v302, .int v303] DL_law_1515 kzvX8_lands ml_RL_168 ⟨Nat.le_of_ble_eq_true rfl, Nat.le_of_ble_eq_true rfl⟩ rfl (Nat.le_of_ble_eq_true rfl) (kX8_lands er304) ?_
      refine R_aload DL_law_1518 2 rfl ?_
      refine R_aload DL_law_1519 0 rfl ?_
      refine R_iload DL_law_1520 3 rfl ?_
      refine R_constI DL_law_1521 ci_1 ?_
      refine R_iadd DL_law_1522 ?_
      obtain ⟨v305, ev305, h⟩ := bind_some h
      refine R_xI DL_law_1523 ev305 ?_
      refine R_aload DL_law_1524 0 rfl ?_
      refine R_iload DL_law_1525 3 rfl ?_
      refine R_constI DL_law_1526 ci_2 ?_
      refine R_iadd DL_law_1527 ?_
      obtain ⟨v306, ev306, h⟩ := bind_some h
      refine R_xI DL_law_1528 ev306 ?_
      obtain ⟨r307, er307, h⟩ := bind_some h
      refine R_cV1 [.int v305, .int v306] DL_law_1529 kzvX9_lands ml_RL_171 ⟨Nat.le_of_ble_eq_true rfl, Nat.le_of_ble_eq_true rfl⟩ rfl (Nat.le_of_ble_eq_true rfl) (kX9_lands er307) ?_
      by_cases c308 : r304.1 = r307.1
      · replace h := if_t h c308
        refine R_icmp_eq_t DL_law_1532 c308 ?_
        exact tL_law_b2428 h hc he0 he1
      · replace h := if_f h c308
        refine R_icmp_eq_f DL_law_1532 c308 ?_
        refine R.sub (L' := []) [] rfl ?_
        cases h
        exact (he1 _ rfl) 1535 (List.mem_of_getElem? (i := 37) rfl)
    replace h := if_f h c301
    by_cases c309 : (v6 &&& (iI 63)) = (iI 38)
    · replace h := if_t h c309
      refine R_tabIn (t := 1537) DL_law_33 (by rw [c309]; decide) (by rw [c309]; decide) (off := 1504) (by rw [c309]; rfl) (by decide) ?_
      refine R_aload DL_law_1537 1 rfl ?_
      refine R_aload DL_law_1538 0 rfl ?_
      refine R_iload DL_law_1539 3 rfl ?_
      refine R_constI DL_law_1540 ci_1 ?_
      refine R_iadd DL_law_1541 ?_
      obtain ⟨v310, ev310, h⟩ := bind_some h
      refine R_xI DL_law_1542 ev310 ?_
      refine R_aload DL_law_1543 0 rfl ?_
      refine R_iload DL_law_1544 3 rfl ?_
      refine R_constI DL_law_1545 ci_2 ?_
      refine R_iadd DL_law_1546 ?_
      obtain ⟨v311, ev311, h⟩ := bind_some h
      refine R_xI DL_law_1547 ev311 ?_
      obtain ⟨r312, er312, h⟩ := bind_some h
      refine R_cV1 [.int v310, .int v311] DL_law_1548 kzvX8_who ml_RL_172 ⟨Nat.le_of_ble_eq_true rfl, Nat.le_of_ble_eq_true rfl⟩ rfl (Nat.le_of_ble_eq_true rfl) (kX8_who er312) ?_
      refine R_aload DL_law_1551 2 rfl ?_
      refine R_aload DL_law_1552 0 rfl ?_
      refine R_iload DL_law_1553 3 rfl ?_
      refine R_constI DL_law_1554 ci_1 ?_
      refine R_iadd DL_law_1555 ?_
      obtain ⟨v313, ev313, h⟩ := bind_some h
      refine R_xI DL_law_1556 ev313 ?_
      refine R_aload DL_law_1557 0 rfl ?_
      refine R_iload DL_law_1558 3 rfl ?_
      refine R_constI DL_law_1559 ci_2 ?_
      refine R_iadd DL_law_1560 ?_
      obtain ⟨v314, ev314, h⟩ := bind_some h
      refine R_xI DL_law_1561 ev314 ?_
      obtain ⟨r315, er315, h⟩ := bind_some h
      refine R_cV1 [.int v313, .int v314] DL_law_1562 kzvX9_who ml_RL_175 ⟨Nat.le_of_ble_eq_true rfl, Nat.le_of_ble_eq_true rfl⟩ rfl (Nat.le_of_ble_eq_true rfl) (kX9_who er315) ?_
      by_cases c316 : r312.1 = r315.1
      · replace h := if_t h c316
        refine R_icmp_eq_t DL_law_1565 c316 ?_
        exact tL_law_b2428 h hc he0 he1
      · replace h := if_f h c316
        refine R_icmp_eq_f DL_law_1565 c316 ?_
        refine R.sub (L' := []) [] rfl ?_
        cases h
        exact (he1 _ rfl) 1568 (List.mem_of_getElem? (i := 38) rfl)
    replace h := if_f h c309
    by_cases c317 : (v6 &&& (iI 63)) = (iI 39)
    · replace h := if_t h c317
      refine R_tabIn (t := 1570) DL_law_33 (by rw [c317]; decide) (by rw [c317]; decide) (off := 1537) (by rw [c317]; rfl) (by decide) ?_
      refine R_aload DL_law_1570 1 rfl ?_
      refine R_aload DL_law_1571 0 rfl ?_
      refine R_iload DL_law_1572 3 rfl ?_
      refine R_constI DL_law_1573 ci_1 ?_
      refine R_iadd DL_law_1574 ?_
      obtain ⟨v318, ev318, h⟩ := bind_some h
      refine R_xI DL_law_1575 ev318 ?_
      refine R_aload DL_law_1576 0 rfl ?_
      refine R_iload DL_law_1577 3 rfl ?_
      refine R_constI DL_law_1578 ci_2 ?_
      refine R_iadd DL_law_1579 ?_
      obtain ⟨v319, ev319, h⟩ := bind_some h
      refine R_xI DL_law_1580 ev319 ?_
      obtain ⟨r320, er320, h⟩ := bind_some h
      refine R_cV1 [.int v318, .int v319] DL_law_1581 kzvX8_first ml_RL_176 ⟨Nat.le_of_ble_eq_true rfl, Nat.le_of_ble_eq_true rfl⟩ rfl (Nat.le_of_ble_eq_true rfl) (kX8_first er320) ?_
      refine R_aload DL_law_1584 2 rfl ?_
      refine R_aload DL_law_1585 0 rfl ?_
      refine R_iload DL_law_1586 3 rfl ?_
      refine R_constI DL_law_1587 ci_1 ?_
      refine R_iadd DL_law_1588 ?_
      obtain ⟨v321, ev321, h⟩ := bind_some h
      refine R_xI DL_law_1589 ev321 ?_
      refine R_aload DL_law_1590 0 rfl ?_
      refine R_iload DL_law_1591 3 rfl ?_
      refine R_constI DL_law_1592 ci_2 ?_
      refine R_iadd DL_law_1593 ?_
      obtain ⟨v322, ev322, h⟩ := bind_some h
      refine R_xI DL_law_1594 ev322 ?_
      obtain ⟨r323, er323, h⟩ := bind_some h
      refine R_cV1 [.int v321, .int v322] DL_law_1595 kzvX9_first_ ml_RL_179 ⟨Nat.le_of_ble_eq_true rfl, Nat.le_of_ble_eq_true rfl⟩ rfl (Nat.le_of_ble_eq_true rfl) (kX9_first_ er323) ?_
      by_cases c324 : r320.1 = r323.1
      · replace h := if_t h c324
        refine R_icmp_eq_t DL_law_1598 c324 ?_
        exact tL_law_b2428 h hc he0 he1
      · replace h := if_f h c324
        refine R_icmp_eq_f DL_law_1598 c324 ?_
        refine R.sub (L' := []) [] rfl ?_
        cases h
        exact (he1 _ rfl) 1601 (List.mem_of_getElem? (i := 39) rfl)
    replace h := if_f h c317
    by_cases c325 : (v6 &&& (iI 63)) = (iI 40)
    · replace h := if_t h c325
      refine R_tabIn (t := 1603) DL_law_33 (by rw [c325]; decide) (by rw [c325]; decide) (off := 1570) (by rw [c325]; rfl) (by decide) ?_
      refine R_aload DL_law_1603 1 rfl ?_
      refine R_aload DL_law_1604 0 rfl ?_
      refine R_iload DL_law_1605 3 rfl ?_
      refine R_constI DL_law_1606 ci_1 ?_
      refine R_iadd DL_law_1607 ?_
      obtain ⟨v326, ev326, h⟩ := bind_some h
      refine R_xI DL_law_1608 ev326 ?_
      refine R_aload DL_law_1609 0 rfl ?_
      refine R_iload DL_law_1610 3 rfl ?_
      refine R_constI DL_law_1611 ci_2 ?_
      refine R_iadd DL_law_1612 ?_
      obtain ⟨v327, ev327, h⟩ := bind_some h
      refine R_xI DL_law_1613 ev327 ?_
      obtain ⟨r328, er328, h⟩ := bind_some h
      refine R_cV1 [.int v326, .int v327] DL_law_1614 kzvX8_suspects ml_RL_180 ⟨Nat.le_of_ble_eq_true rfl, Nat.le_of_ble_eq_true rfl⟩ rfl (Nat.le_of_ble_eq_true rfl) (kX8_suspects er328) ?_
      refine R_aload DL_law_1617 2 rfl ?_
      refine R_aload DL_law_1618 0 rfl ?_
      refine R_iload DL_law_1619 3 rfl ?_
      refine R_constI DL_law_1620 ci_1 ?_
      refine R_iadd DL_law_1621 ?_
      obtain ⟨v329, ev329, h⟩ := bind_some h
      refine R_xI DL_law_1622 ev329 ?_
      refine R_aload DL_law_1623 0 rfl ?_
      refine R_iload DL_law_1624 3 rfl ?_
      refine R_constI DL_law_1625 ci_2 ?_
      refine R_iadd DL_law_1626 ?_
      obtain ⟨v330, ev330, h⟩ := bind_some h
      refine R_xI DL_law_1627 ev330 ?_
      obtain ⟨r331, er331, h⟩ := bind_some h
      refine R_cV1 [.int v329, .int v330] DL_law_1628 kzvX9_suspects ml_RL_183 ⟨Nat.le_of_ble_eq_true rfl, Nat.le_of_ble_eq_true rfl⟩ rfl (Nat.le_of_ble_eq_true rfl) (kX9_suspects er331) ?_
      by_cases c332 : r328.1 = r331.1
      · replace h := if_t h c332
        refine R_icmp_eq_t DL_law_1631 c332 ?_
        exact tL_law_b2428 h hc he0 he1
      · replace h := if_f h c332
        refine R_icmp_eq_f DL_law_1631 c332 ?_
        refine R.sub (L' := []) [] rfl ?_
        cases h
        exact (he1 _ rfl) 1634 (List.mem_of_getElem? (i := 40) rfl)
    replace h := if_f h c325
    by_cases c333 : (v6 &&& (iI 63)) = (iI 41)
    · replace h := if_t h c333
      refine R_tabIn (t := 1636) DL_law_33 (by rw [c333]; decide) (by rw [c333]; decide) (off := 1603) (by rw [c333]; rfl) (by decide) ?_
      refine R_aload DL_law_1636 1 rfl ?_
      refine R_aload DL_law_1637 0 rfl ?_
      refine R_iload DL_law_1638 3 rfl ?_
      refine R_constI DL_law_1639 ci_1 ?_
      refine R_iadd DL_law_1640 ?_
      obtain ⟨v334, ev334, h⟩ := bind_some h
      refine R_xI DL_law_1641 ev334 ?_
      refine R_aload DL_law_1642 0 rfl ?_
      refine R_iload DL_law_1643 3 rfl ?_
      refine R_constI DL_law_1644 ci_2 ?_
      refine R_iadd DL_law_1645 ?_
      obtain ⟨v335, ev335, h⟩ := bind_some h
      refine R_xI DL_law_1646 ev335 ?_
      refine R_aload DL_law_1647 0 rfl ?_
      refine R_iload DL_law_1648 3 rfl ?_
      refine R_constI DL_law_1649 ci_3 ?_
      refine R_iadd DL_law_1650 ?_
      obtain ⟨v336, ev336, h⟩ := bind_some h
      refine R_xI DL_law_1651 ev336 ?_
      refine R_aload DL_law_1652 0 rfl ?_
      refine R_iload DL_law_1653 3 rfl ?_
      refine R_constI DL_law_1654 ci_4 ?_
      refine R_iadd DL_law_1655 ?_
      obtain ⟨v337, ev337, h⟩ := bind_some h
      refine R_xI DL_law_1656 ev337 ?_
      refine R_aload DL_law_1657 0 rfl ?_
      refine R_iload DL_law_1658 3 rfl ?_
      refine R_constI DL_law_1659 ci_5 ?_
      refine R_iadd DL_law_1660 ?_
      obtain ⟨v338, ev338, h⟩ := bind_some h
      refine R_xI DL_law_1661 ev338 ?_
      obtain ⟨r339, er339, h⟩ := bind_some h
      refine R_cV1 [.int v334, .int v335, .int v336, .int v337, .int v338] DL_law_1662 kzvX8_drift ml_RL_184 ⟨Nat.le_of_ble_eq_true rfl, Nat.le_of_ble_eq_true rfl⟩ rfl (Nat.le_of_ble_eq_true rfl) (kX8_drift er339) ?_
      refine R_aload DL_law_1665 2 rfl ?_
      refine R_aload DL_law_1666 0 rfl ?_
      refine R_iload DL_law_1667 3 rfl ?_
      refine R_constI DL_law_1668 ci_1 ?_
      refine R_iadd DL_law_1669 ?_
      obtain ⟨v340, ev340, h⟩ := bind_some h
      refine R_xI DL_law_1670 ev340 ?_
      refine R_aload DL_law_1671 0 rfl ?_
      refine R_iload DL_law_1672 3 rfl ?_
      refine R_constI DL_law_1673 ci_2 ?_
      refine R_iadd DL_law_1674 ?_
      obtain ⟨v341, ev341, h⟩ := bind_some h
      refine R_xI DL_law_1675 ev341 ?_
      refine R_aload DL_law_1676 0 rfl ?_
      refine R_iload DL_law_1677 3 rfl ?_
      refine R_constI DL_law_1678 ci_3 ?_
      refine R_iadd DL_law_1679 ?_
      obtain ⟨v342, ev342, h⟩ := bind_some h
      refine R_xI DL_law_1680 ev342 ?_
      refine R_aload DL_law_1681 0 rfl ?_
      refine R_iload DL_law_1682 3 rfl ?_
      refine R_constI DL_law_1683 ci_4 ?_
      refine R_iadd DL_law_1684 ?_
      obtain ⟨v343, ev343, h⟩ := bind_some h
      refine R_xI DL_law_1685 ev343 ?_
      refine R_aload DL_law_1686 0 rfl ?_
      refine R_iload DL_law_1687 3 rfl ?_
      refine R_constI DL_law_1688 ci_5 ?_
      refine R_iadd DL_law_1689 ?_
      obtain ⟨v344, ev344, h⟩ := bind_some h
      refine R_xI DL_law_1690 ev344 ?_
      obtain ⟨r345, er345, h⟩ := bind_some h
      refine R_cV1 [.int v340, .int v341, .int v342, .int v343, .int v344] DL_law_1691 kzvX9_drift ml_RL_187 ⟨Nat.le_of_ble_eq_true rfl, Nat.le_of_ble_eq_true rfl⟩ rfl (Nat.le_of_ble_eq_true rfl) (kX9_drift er345) ?_
      by_cases c346 : r339.1 = r345.1
      · replace h := if_t h c346
        refine R_icmp_eq_t DL_law_1694 c346 ?_
        exact tL_law_b2428 h hc he0 he1
      · replace h := if_f h c346
        refine R_icmp_eq_f DL_law_1694 c346 ?_
        refine R.sub (L' := []) [] rfl ?_
        cases h
        exact (he1 _ rfl) 1697 (List.mem_of_getElem? (i := 41) rfl)
    replace h := if_f h c333
    by_cases c347 : (v6 &&& (iI 63)) = (iI 42)
    · replace h := if_t h c347
      refine R_tabIn (t := 1699) DL_law_33 (by rw [c347]; decide) (by rw [c347]; decide) (off := 1666) (by rw [c347]; rfl) (by decide) ?_
      refine R_aload DL_law_1699 1 rfl ?_
      refine R_aload DL_law_1700 0 rfl ?_
      refine R_iload DL_law_1701 3 rfl ?_
      refine R_constI DL_law_1702 ci_1 ?_
      refine R_iadd DL_law_1703 ?_
      obtain ⟨v348, ev348, h⟩ := bind_some h
      refine R_xI DL_law_1704 ev348 ?_
      refine R_aload DL_law_1705 0 rfl ?_
      refine R_iload DL_law_1706 3 rfl ?_
      refine R_constI DL_law_1707 ci_2 ?_
      refine R_iadd DL_law_1708 ?_
      obtain ⟨v349, ev349, h⟩ := bind_some h
      refine R_xI DL_law_1709 ev349 ?_
      refine R_aload DL_law_1710 0 rfl ?_
      refine R_iload DL_law_1711 3 rfl ?_
      refine R_constI DL_law_1712 ci_3 ?_
      refine R_iadd DL_law_1713 ?_
      obtain ⟨v350, ev350, h⟩ := bind_some h
      refine R_xI DL_law_1714 ev350 ?_
      refine R_aload DL_law_1715 0 rfl ?_
      refine R_iload DL_law_1716 3 rfl ?_
      refine R_constI DL_law_1717 ci_4 ?_
      refine R_iadd DL_law_1718 ?_
      obtain ⟨v351, ev351, h⟩ := bind_some h
      refine R_xI DL_law_1719 ev351 ?_
      refine R_aload DL_law_1720 0 rfl ?_
      refine R_iload DL_law_1721 3 rfl ?_
      refine R_constI DL_law_1722 ci_5 ?_
      refine R_iadd DL_law_1723 ?_
      obtain ⟨v352, ev352, h⟩ := bind_some h
      refine R_xI DL_law_1724 ev352 ?_
      obtain ⟨r353, er353, h⟩ := bind_some h
      refine R_cV1 [.int v348, .int v349, .int v350, .int v351, .int v352] DL_law_1725 kzvX8_whence ml_RL_188 ⟨Nat.le_of_ble_eq_true rfl, Nat.le_of_ble_eq_true rfl⟩ rfl (Nat.le_of_ble_eq_true rfl) (kX8_whence er353) ?_
      refine R_aload DL_law_1728 2 rfl ?_
      refine R_aload DL_law_1729 0 rfl ?_
      refine R_iload DL_law_1730 3 rfl ?_
      refine R_constI DL_law_1731 ci_1 ?_
      refine R_iadd DL_law_1732 ?_
      obtain ⟨v354, ev354, h⟩ := bind_some h
      refine R_xI DL_law_1733 ev354 ?_
      refine R_aload DL_law_1734 0 rfl ?_
      refine R_iload DL_law_1735 3 rfl ?_
      refine R_constI DL_law_1736 ci_2 ?_
      refine R_iadd DL_law_1737 ?_
      obtain ⟨v355, ev355, h⟩ := bind_some h
      refine R_xI DL_law_1738 ev355 ?_
      refine R_aload DL_law_1739 0 rfl ?_
      refine R_iload DL_law_1740 3 rfl ?_
      refine R_constI DL_law_1741 ci_3 ?_
      refine R_iadd DL_law_1742 ?_
      obtain ⟨v356, ev356, h⟩ := bind_some h
      refine R_xI DL_law_1743 ev356 ?_
      refine R_aload DL_law_1744 0 rfl ?_
      refine R_iload DL_law_1745 3 rfl ?_
      refine R_constI DL_law_1746 ci_4 ?_
      refine R_iadd DL_law_1747 ?_
      obtain ⟨v357, ev357, h⟩ := bind_some h
      refine R_xI DL_law_1748 ev357 ?_
      refine R_aload DL_law_1749 0 rfl ?_
      refine R_iload DL_law_1750 3 rfl ?_
      refine R_constI DL_law_1751 ci_5 ?_
      refine R_iadd DL_law_1752 ?_
      obtain ⟨v358, ev358, h⟩ := bind_some h
      refine R_xI DL_law_1753 ev358 ?_
      obtain ⟨r359, er359, h⟩ := bind_some h
      refine R_cV1 [.int v354, .int v355, .int v356, .int v357, .int v358] DL_law_1754 kzvX9_whence ml_RL_191 ⟨Nat.le_of_ble_eq_true rfl, Nat.le_of_ble_eq_true rfl⟩ rfl (Nat.le_of_ble_eq_true rfl) (kX9_whence er359) ?_
      by_cases c360 : r353.1 = r359.1
      · replace h := if_t h c360
        refine R_icmp_eq_t DL_law_1757 c360 ?_
        exact tL_law_b2428 h hc he0 he1
      · replace h := if_f h c360
        refine R_icmp_eq_f DL_law_1757 c360 ?_
        refine R.sub (L' := []) [] rfl ?_
        cases h
        exact (he1 _ rfl) 1760 (List.mem_of_getElem? (i := 42) rfl)
    replace h := if_f h c347
    by_cases c361 : (v6 &&& (iI 63)) = (iI 43)
    · replace h := if_t h c361
      refine R_tabIn (t := 1762) DL_law_33 (by rw [c361]; decide) (by rw [c361]; decide) (off := 1729) (by rw [c361]; rfl) (by decide) ?_
      refine R_aload DL_law_1762 1 rfl ?_
      refine R_aload DL_law_1763 0 rfl ?_
      refine R_iload DL_law_1764 3 rfl ?_
      refine R_constI DL_law_1765 ci_1 ?_
      refine R_iadd DL_law_1766 ?_
      obtain ⟨v362, ev362, h⟩ := bind_some h
      refine R_xI DL_law_1767 ev362 ?_
      obtain ⟨r363, er363, h⟩ := bind_some h
      refine R_cV1 [.int v362] DL_law_1768 kzvX8_smoke ml_RL_192 ⟨Nat.le_of_ble_eq_true rfl, Nat.le_of_ble_eq_true rfl⟩ rfl (Nat.le_of_ble_eq_true rfl) (kX8_smoke er363) ?_
      refine R_aload DL_law_1771 2 rfl ?_
      refine R_aload DL_law_1772 0 rfl ?_
      refine R_iload DL_law_1773 3 rfl ?_
      refine R_constI DL_law_1774 ci_1 ?_
      refine R_iadd DL_law_1775 ?_
      obtain ⟨v364, ev364, h⟩ := bind_some h
      refine R_xI DL_law_1776 ev364 ?_
      obtain ⟨r365, er365, h⟩ := bind_some h
      refine R_cV1 [.int v364] DL_law_1777 kzvX9_smoke ml_RL_195 ⟨Nat.le_of_ble_eq_true rfl, Nat.le_of_ble_eq_true rfl⟩ rfl (Nat.le_of_ble_eq_true rfl) (kX9_smoke er365) ?_
      by_cases c366 : r363.1 = r365.1
      · replace h := if_t h c366
        refine R_icmp_eq_t DL_law_1780 c366 ?_
        exact tL_law_b2428 h hc he0 he1
      · replace h := if_f h c366
        refine R_icmp_eq_f DL_law_1780 c366 ?_
        refine R.sub (L' := []) [] rfl ?_
        cases h
        exact (he1 _ rfl) 1783 (List.mem_of_getElem? (i := 43) rfl)
    replace h := if_f h c361
    by_cases c367 : (v6 &&& (iI 63)) = (iI 44)
    · replace h := if_t h c367
      refine R_tabIn (t := 1785) DL_law_33 (by rw [c367]; decide) (by rw [c367]; decide) (off := 1752) (by rw [c367]; rfl) (by decide) ?_
      refine R_aload DL_law_1785 1 rfl ?_
      refine R_aload DL_law_1786 0 rfl ?_
      refine R_iload DL_law_1787 3 rfl ?_
      refine R_constI DL_law_1788 ci_1 ?_
      refine R_iadd DL_law_1789 ?_
      obtain ⟨v368, ev368, h⟩ := bind_some h
      refine R_xI DL_law_1790 ev368 ?_
      obtain ⟨r369, er369, h⟩ := bind_some h
      refine R_cV1 [.int v368] DL_law_1791 kzvX8_kites ml_RL_196 ⟨Nat.le_of_ble_eq_true rfl, Nat.le_of_ble_eq_true rfl⟩ rfl (Nat.le_of_ble_eq_true rfl) (kX8_kites er369) ?_
      refine R_aload DL_law_1794 2 rfl ?_
      refine R_aload DL_law_1795 0 rfl ?_
      refine R_iload DL_law_1796 3 rfl ?_
      refine R_constI DL_law_1797 ci_1 ?_
      refine R_iadd DL_law_1798 ?_
      obtain ⟨v370, ev370, h⟩ := bind_some h
      refine R_xI DL_law_1799 ev370 ?_
      obtain ⟨r371, er371, h⟩ := bind_some h
      refine R_cV1 [.int v370] DL_law_1800 kzvX9_kites ml_RL_199 ⟨Nat.le_of_ble_eq_true rfl, Nat.le_of_ble_eq_true rfl⟩ rfl (Nat.le_of_ble_eq_true rfl) (kX9_kites er371) ?_
      by_cases c372 : r369.1 = r371.1
      · replace h := if_t h c372
        refine R_icmp_eq_t DL_law_1803 c372 ?_
        exact tL_law_b2428 h hc he0 he1
      · replace h := if_f h c372
        refine R_icmp_eq_f DL_law_1803 c372 ?_
        refine R.sub (L' := []) [] rfl ?_
        cases h
        exact (he1 _ rfl) 1806 (List.mem_of_getElem? (i := 44) rfl)
    replace h := if_f h c367
    by_cases c373 : (v6 &&& (iI 63)) = (iI 45)
    · replace h := if_t h c373
      refine R_tabIn (t := 1808) DL_law_33 (by rw [c373]; decide) (by rw [c373]; decide) (off := 1775) (by rw [c373]; rfl) (by decide) ?_
      refine R_aload DL_law_1808 1 rfl ?_
      refine R_aload DL_law_1809 0 rfl ?_
      refine R_iload DL_law_1810 3 rfl ?_
      refine R_constI DL_law_1811 ci_1 ?_
      refine R_iadd DL_law_1812 ?_
      obtain ⟨v374, ev374, h⟩ := bind_some h
      refine R_xI DL_law_1813 ev374 ?_
      obtain ⟨r375, er375, h⟩ := bind_some h
      refine R_cV1 [.int v374] DL_law_1814 kzvX8_known ml_RL_200 ⟨Nat.le_of_ble_eq_true rfl, Nat.le_of_ble_eq_true rfl⟩ rfl (Nat.le_of_ble_eq_true rfl) (kX8_known er375) ?_
      refine R_aload DL_law_1817 2 rfl ?_
      refine R_aload DL_law_1818 0 rfl ?_
      refine R_iload DL_law_1819 3 rfl ?_
      refine R_constI DL_law_1820 ci_1 ?_
      refine R_iadd DL_law_1821 ?_
      obtain ⟨v376, ev376, h⟩ := bind_some h
      refine R_xI DL_law_1822 ev376 ?_
      obtain ⟨r377, er377, h⟩ := bind_some h
      refine R_cV1 [.int v376] DL_law_1823 kzvX9_known ml_RL_203 ⟨Nat.le_of_ble_eq_true rfl, Nat.le_of_ble_eq_true rfl⟩ rfl (Nat.le_of_ble_eq_true rfl) (kX9_known er377) ?_
      by_cases c378 : r375.1 = r377.1
      · replace h := if_t h c378
        refine R_icmp_eq_t DL_law_1826 c378 ?_
        exact tL_law_b2428 h hc he0 he1
      · replace h := if_f h c378
        refine R_icmp_eq_f DL_law_1826 c378 ?_
        refine R.sub (L' := []) [] rfl ?_
        cases h
        exact (he1 _ rfl) 1829 (List.mem_of_getElem? (i := 45) rfl)
    replace h := if_f h c373
    by_cases c379 : (v6 &&& (iI 63)) = (iI 46)
    · replace h := if_t h c379
      refine R_tabIn (t := 1831) DL_law_33 (by rw [c379]; decide) (by rw [c379]; decide) (off := 1798) (by rw [c379]; rfl) (by decide) ?_
      refine R_aload DL_law_1831 1 rfl ?_
      refine R_aload DL_law_1832 0 rfl ?_
      refine R_iload DL_law_1833 3 rfl ?_
      refine R_constI DL_law_1834 ci_1 ?_
      refine R_iadd DL_law_1835 ?_
      obtain ⟨v380, ev380, h⟩ := bind_some h
      refine R_xI DL_law_1836 ev380 ?_
      obtain ⟨r381, er381, h⟩ := bind_some h
      refine R_cV1 [.int v380] DL_law_1837 kzvX8_price ml_RL_204 ⟨Nat.le_of_ble_eq_true rfl, Nat.le_of_ble_eq_true rfl⟩ rfl (Nat.le_of_ble_eq_true rfl) (kX8_price er381) ?_
      refine R_aload DL_law_1840 2 rfl ?_
      refine R_aload DL_law_1841 0 rfl ?_
      refine R_iload DL_law_1842 3 rfl ?_
      refine R_constI DL_law_1843 ci_1 ?_
      refine R_iadd DL_law_1844 ?_
      obtain ⟨v382, ev382, h⟩ := bind_some h
      refine R_xI DL_law_1845 ev382 ?_
      obtain ⟨r383, er383, h⟩ := bind_some h
      refine R_cV1 [.int v382] DL_law_1846 kzvX9_price ml_RL_207 ⟨Nat.le_of_ble_eq_true rfl, Nat.le_of_ble_eq_true rfl⟩ rfl (Nat.le_of_ble_eq_true rfl) (kX9_price er383) ?_
      by_cases c384 : r381.1 = r383.1
      · replace h := if_t h c384
        refine R_icmp_eq_t DL_law_1849 c384 ?_
        exact tL_law_b2428 h hc he0 he1
      · replace h := if_f h c384
        refine R_icmp_eq_f DL_law_1849 c384 ?_
        refine R.sub (L' := []) [] rfl ?_
        cases h
        exact (he1 _ rfl) 1852 (List.mem_of_getElem? (i := 46) rfl)
    replace h := if_f h c379
    by_cases c385 : (v6 &&& (iI 63)) = (iI 47)
    · replace h := if_t h c385
      refine R_tabIn (t := 1854) DL_law_33 (by rw [c385]; decide) (by rw [c385]; decide) (off := 1821) (by rw [c385]; rfl) (by decide) ?_
      refine R_aload DL_law_1854 1 rfl ?_
      refine R_aload DL_law_1855 0 rfl ?_
      refine R_iload DL_law_1856 3 rfl ?_
      refine R_constI DL_law_1857 ci_1 ?_
      refine R_iadd DL_law_1858 ?_
      obtain ⟨v386, ev386, h⟩ := bind_some h
      refine R_xI DL_law_1859 ev386 ?_
      refine R_aload DL_law_1860 0 rfl ?_
      refine R_iload DL_law_1861 3 rfl ?_
      refine R_constI DL_law_1862 ci_2 ?_
      refine R_iadd DL_law_1863 ?_
      obtain ⟨v387, ev387, h⟩ := bind_some h
      refine R_xI DL_law_1864 ev387 ?_
      refine R_aload DL_law_1865 0 rfl ?_
      refine R_iload DL_law_1866 3 rfl ?_
      refine R_constI DL_law_1867 ci_3 ?_
      refine R_iadd DL_law_1868 ?_
      obtain ⟨v388, ev388, h⟩ := bind_some h
      refine R_xI DL_law_1869 ev388 ?_
      obtain ⟨r389, er389, h⟩ := bind_some h
      refine R_cV1 [.int v386, .int v387, .int v388] DL_law_1870 kzvX8_worth ml_RL_208 ⟨Nat.le_of_ble_eq_true rfl, Nat.le_of_ble_eq_true rfl⟩ rfl (Nat.le_of_ble_eq_true rfl) (kX8_worth er389) ?_
      refine R_aload DL_law_1873 2 rfl ?_
      refine R_aload DL_law_1874 0 rfl ?_
      refine R_iload DL_law_1875 3 rfl ?_
      refine R_constI DL_law_1876 ci_1 ?_
      refine R_iadd DL_law_1877 ?_
      obtain ⟨v390, ev390, h⟩ := bind_some h
      refine R_xI DL_law_1878 ev390 ?_
      refine R_aload DL_law_1879 0 rfl ?_
      refine R_iload DL_law_1880 3 rfl ?_
      refine R_constI DL_law_1881 ci_2 ?_
      refine R_iadd DL_law_1882 ?_
      obtain ⟨v391, ev391, h⟩ := bind_some h
      refine R_xI DL_law_1883 ev391 ?_
      refine R_aload DL_law_1884 0 rfl ?_
      refine R_iload DL_law_1885 3 rfl ?_
      refine R_constI DL_law_1886 ci_3 ?_
      refine R_iadd DL_law_1887 ?_
      obtain ⟨v392, ev392, h⟩ := bind_some h
      refine R_xI DL_law_1888 ev392 ?_
      obtain ⟨r393, er393, h⟩ := bind_some h
      refine R_cV1 [.int v390, .int v391, .int v392] DL_law_1889 kzvX9_worth ml_RL_211 ⟨Nat.le_of_ble_eq_true rfl, Nat.le_of_ble_eq_true rfl⟩ rfl (Nat.le_of_ble_eq_true rfl) (kX9_worth er393) ?_
      by_cases c394 : r389.1 = r393.1
      · replace h := if_t h c394
        refine R_icmp_eq_t DL_law_1892 c394 ?_
        exact tL_law_b2428 h hc he0 he1
      · replace h := if_f h c394
        refine R_icmp_eq_f DL_law_1892 c394 ?_
        refine R.sub (L' := []) [] rfl ?_
        cases h
        exact (he1 _ rfl) 1895 (List.mem_of_getElem? (i := 47) rfl)
    replace h := if_f h c385
    by_cases c395 : (v6 &&& (iI 63)) = (iI 48)
    · replace h := if_t h c395
      refine R_tabIn (t := 1897) DL_law_33 (by rw [c395]; decide) (by rw [c395]; decide) (off := 1864) (by rw [c395]; rfl) (by decide) ?_
      refine R_aload DL_law_1897 1 rfl ?_
      obtain ⟨r396, er396, h⟩ := bind_some h
      refine R_cV1 [] DL_law_1898 kzvX8_best ml_RL_212 ⟨Nat.le_of_ble_eq_true rfl, Nat.le_of_ble_eq_true rfl⟩ rfl (Nat.le_of_ble_eq_true rfl) (kX8_best er396) ?_
      refine R_aload DL_law_1901 2 rfl ?_
      obtain ⟨r397, er397, h⟩ := bind_some h
      refine R_cV1 [] DL_law_1902 kzvX9_best ml_RL_215 ⟨Nat.le_of_ble_eq_true rfl, Nat.le_of_ble_eq_true rfl⟩ rfl (Nat.le_of_ble_eq_true rfl) (kX9_best er397) ?_
      by_cases c398 : r396.1 = r397.1
      · replace h := if_t h c398
        refine R_icmp_eq_t DL_law_1905 c398 ?_
        exact tL_law_b2428 h hc he0 he1
      · replace h := if_f h c398
        refine R_icmp_eq_f DL_law_1905 c398 ?_
        refine R.sub (L' := []) [] rfl ?_
        cases h
        exact (he1 _ rfl) 1908 (List.mem_of_getElem? (i := 48) rfl)
    replace h := if_f h c395
    by_cases c399 : (v6 &&& (iI 63)) = (iI 49)
    · replace h := if_t h c399
      refine R_tabIn (t := 1910) DL_law_33 (by rw [c399]; decide) (by rw [c399]; decide) (off := 1877) (by rw [c399]; rfl) (by decide) ?_
      refine R_aload DL_law_1910 1 rfl ?_
      refine R_aload DL_law_1911 0 rfl ?_
      refine R_iload DL_law_1912 3 rfl ?_
      refine R_constI DL_law_1913 ci_1 ?_
      refine R_iadd DL_law_1914 ?_
      obtain ⟨v400, ev400, h⟩ := bind_some h
      refine R_xI DL_law_1915 ev400 ?_
      obtain ⟨r401, er401, h⟩ := bind_some h
      refine R_cV1 [.int v400] DL_law_1916 kzvX8_other ml_RL_216 ⟨Nat.le_of_ble_eq_true rfl, Nat.le_of_ble_eq_true rfl⟩ rfl (Nat.le_of_ble_eq_true rfl) (kX8_other er401) ?_
      refine R_aload DL_law_1919 2 rfl ?_
      refine R_aload DL_law_1920 0 rfl ?_
      refine R_iload DL_law_1921 3 rfl ?_
      refine R_constI DL_law_1922 ci_1 ?_
      refine R_iadd DL_law_1923 ?_
      obtain ⟨v402, ev402, h⟩ := bind_some h
      refine R_xI DL_law_1924 ev402 ?_
      obtain ⟨r403, er403, h⟩ := bind_some h
      refine R_cV1 [.int v402] DL_law_1925 kzvX9_other ml_RL_219 ⟨Nat.le_of_ble_eq_true rfl, Nat.le_of_ble_eq_true rfl⟩ rfl (Nat.le_of_ble_eq_true rfl) (kX9_other er403) ?_
      by_cases c404 : r401.1 = r403.1
      · replace h := if_t h c404
        refine R_icmp_eq_t DL_law_1928 c404 ?_
        exact tL_law_b2428 h hc he0 he1
      · replace h := if_f h c404
        refine R_icmp_eq_f DL_law_1928 c404 ?_
        refine R.sub (L' := []) [] rfl ?_
        cases h
        exact (he1 _ rfl) 1931 (List.mem_of_getElem? (i := 49) rfl)
    replace h := if_f h c399
    by_cases c405 : (v6 &&& (iI 63)) = (iI 50)
    · replace h := if_t h c405
      refine R_tabIn (t := 1933) DL_law_33 (by rw [c405]; decide) (by rw [c405]; decide) (off := 1900) (by rw [c405]; rfl) (by decide) ?_
      refine R_aload DL_law_1933 1 rfl ?_
      refine R_aload DL_law_1934 0 rfl ?_
      refine R_iload DL_law_1935 3 rfl ?_
      refine R_constI DL_law_1936 ci_1 ?_
      refine R_iadd DL_law_1937 ?_
      obtain ⟨v406, ev406, h⟩ := bind_some h
      refine R_xI DL_law_1938 ev406 ?_
      refine R_aload DL_law_1939 0 rfl ?_
      refine R_iload DL_law_1940 3 rfl ?_
      refine R_constI DL_law_1941 ci_2 ?_
      refine R_iadd DL_law_1942 ?_
      obtain ⟨v407, ev407, h⟩ := bind_some h
      refine R_xI DL_law_1943 ev407 ?_
      refine R_aload DL_law_1944 0 rfl ?_
      refine R_iload DL_law_1945 3 rfl ?_
      refine R_constI DL_law_1946 ci_3 ?_
      refine R_iadd DL_law_1947 ?_
      obtain ⟨v408, ev408, h⟩ := bind_some h
      refine R_xI DL_law_1948 ev408 ?_
      obtain ⟨r409, er409, h⟩ := bind_some h
      refine R_cV1 [.int v406, .int v407, .int v408] DL_law_1949 kzvX8_load ml_RL_220 ⟨Nat.le_of_ble_eq_true rfl, Nat.le_of_ble_eq_true rfl⟩ rfl (Nat.le_of_ble_eq_true rfl) (kX8_load er409) ?_
      refine R_aload DL_law_1952 2 rfl ?_
      refine R_aload DL_law_1953 0 rfl ?_
      refine R_iload DL_law_1954 3 rfl ?_
      refine R_constI DL_law_1955 ci_1 ?_
      refine R_iadd DL_law_1956 ?_
      obtain ⟨v410, ev410, h⟩ := bind_some h
      refine R_xI DL_law_1957 ev410 ?_
      refine R_aload DL_law_1958 0 rfl ?_
      refine R_iload DL_law_1959 3 rfl ?_
      refine R_constI DL_law_1960 ci_2 ?_
      refine R_iadd DL_law_1961 ?_
      obtain ⟨v411, ev411, h⟩ := bind_some h
      refine R_xI DL_law_1962 ev411 ?_
      refine R_aload DL_law_1963 0 rfl ?_
      refine R_iload DL_law_1964 3 rfl ?_
      refine R_constI DL_law_1965 ci_3 ?_
      refine R_iadd DL_law_1966 ?_
      obtain ⟨v412, ev412, h⟩ := bind_some h
      refine R_xI DL_law_1967 ev412 ?_
      obtain ⟨r413, er413, h⟩ := bind_some h
      refine R_cV1 [.int v410, .int v411, .int v412] DL_law_1968 kzvX9_load ml_RL_223 ⟨Nat.le_of_ble_eq_true rfl, Nat.le_of_ble_eq_true rfl⟩ rfl (Nat.le_of_ble_eq_true rfl) (kX9_load er413) ?_
      by_cases c414 : r409.1 = r413.1
      · replace h := if_t h c414
        refine R_icmp_eq_t DL_law_1971 c414 ?_
        exact tL_law_b2428 h hc he0 he1
      · replace h := if_f h c414
        refine R_icmp_eq_f DL_law_1971 c414 ?_
        refine R.sub (L' := []) [] rfl ?_
        cases h
        exact (he1 _ rfl) 1974 (List.mem_of_getElem? (i := 50) rfl)
    replace h := if_f h c405
    by_cases c415 : (v6 &&& (iI 63)) = (iI 51)
    · replace h := if_t h c415
      refine R_tabIn (t := 1976) DL_law_33 (by rw [c415]; decide) (by rw [c415]; decide) (off := 1943) (by rw [c415]; rfl) (by decide) ?_
      refine R_aload DL_law_1976 1 rfl ?_
      refine R_aload DL_law_1977 0 rfl ?_
      refine R_iload DL_law_1978 3 rfl ?_
      refine R_constI DL_law_1979 ci_1 ?_
      refine R_iadd DL_law_1980 ?_
      obtain ⟨v416, ev416, h⟩ := bind_some h
      refine R_xI DL_law_1981 ev416 ?_
      refine R_aload DL_law_1982 0 rfl ?_
      refine R_iload DL_law_1983 3 rfl ?_
      refine R_constI DL_law_1984 ci_2 ?_
      refine R_iadd DL_law_1985 ?_
      obtain ⟨v417, ev417, h⟩ := bind_some h
      refine R_xI DL_law_1986 ev417 ?_
      refine R_aload DL_law_1987 0 rfl ?_
      refine R_iload DL_law_1988 3 rfl ?_
      refine R_constI DL_law_1989 ci_3 ?_
      refine R_iadd DL_law_1990 ?_
      obtain ⟨v418, ev418, h⟩ := bind_some h
      refine R_xI DL_law_1991 ev418 ?_
      obtain ⟨r419, er419, h⟩ := bind_some h
      refine R_cV1 [.int v416, .int v417, .int v418] DL_law_1992 kzvX8_turn ml_RL_224 ⟨Nat.le_of_ble_eq_true rfl, Nat.le_of_ble_eq_true rfl⟩ rfl (Nat.le_of_ble_eq_true rfl) (kX8_turn er419) ?_
      refine R_aload DL_law_1995 2 rfl ?_
      refine R_aload DL_law_1996 0 rfl ?_
      refine R_iload DL_law_1997 3 rfl ?_
      refine R_constI DL_law_1998 ci_1 ?_
      refine R_iadd DL_law_1999 ?_
      obtain ⟨v420, ev420, h⟩ := bind_some h
      refine R_xI DL_law_2000 ev420 ?_
      refine R_aload DL_law_2001 0 rfl ?_
      refine R_iload DL_law_2002 3 rfl ?_
      refine R_constI DL_law_2003 ci_2 ?_
      refine R_iadd DL_law_2004 ?_
      obtain ⟨v421, ev421, h⟩ := bind_some h
      refine R_xI DL_law_2005 ev421 ?_
      refine R_aload DL_law_2006 0 rfl ?_
      refine R_iload DL_law_2007 3 rfl ?_
      refine R_constI DL_law_2008 ci_3 ?_
      refine R_iadd DL_law_2009 ?_
      obtain ⟨v422, ev422, h⟩ := bind_some h
      refine R_xI DL_law_2010 ev422 ?_
      obtain ⟨r423, er423, h⟩ := bind_some h
      refine R_cV1 [.int v420, .int v421, .int v422] DL_law_2011 kzvX9_turn ml_RL_227 ⟨Nat.le_of_ble_eq_true rfl, Nat.le_of_ble_eq_true rfl⟩ rfl (Nat.le_of_ble_eq_true rfl) (kX9_turn er423) ?_
      by_cases c424 : r419.1 = r423.1
      · replace h := if_t h c424
        refine R_icmp_eq_t DL_law_2014 c424 ?_
        exact tL_law_b2428 h hc he0 he1
      · replace h := if_f h c424
        refine R_icmp_eq_f DL_law_2014 c424 ?_
        refine R.sub (L' := []) [] rfl ?_
        cases h
        exact (he1 _ rfl) 2017 (List.mem_of_getElem? (i := 51) rfl)
    replace h := if_f h c415
    by_cases c425 : (v6 &&& (iI 63)) = (iI 52)
    · replace h := if_t h c425
      refine R_tabIn (t := 2019) DL_law_33 (by rw [c425]; decide) (by rw [c425]; decide) (off := 1986) (by rw [c425]; rfl) (by decide) ?_
      refine R_aload DL_law_2019 1 rfl ?_
      refine R_aload DL_law_2020 0 rfl ?_
      refine R_iload DL_law_2021 3 rfl ?_
      refine R_constI DL_law_2022 ci_1 ?_
      refine R_iadd DL_law_2023 ?_
      obtain ⟨v426, ev426, h⟩ := bind_some h
      refine R_xI DL_law_2024 ev426 ?_
      refine R_aload DL_law_2025 0 rfl ?_
      refine R_iload DL_law_2026 3 rfl ?_
      refine R_constI DL_law_2027 ci_2 ?_
      refine R_iadd DL_law_2028 ?_
      obtain ⟨v427, ev427, h⟩ := bind_some h
      refine R_xI DL_law_2029 ev427 ?_
      refine R_aload DL_law_2030 0 rfl ?_
      refine R_iload DL_law_2031 3 rfl ?_
      refine R_constI DL_law_2032 ci_3 ?_
      refine R_iadd DL_law_2033 ?_
      obtain ⟨v428, ev428, h⟩ := bind_some h
      refine R_xI DL_law_2034 ev428 ?_
      refine R_aload DL_law_2035 0 rfl ?_
      refine R_iload DL_law_2036 3 rfl ?_
      refine R_constI DL_law_2037 ci_4 ?_
      refine R_iadd DL_law_2038 ?_
      obtain ⟨v429, ev429, h⟩ := bind_some h
      refine R_xI DL_law_2039 ev429 ?_
      obtain ⟨r430, er430, h⟩ := bind_some h
      refine R_cV1 [.int v426, .int v427, .int v428, .int v429] DL_law_2040 kzvX8_gust ml_RL_228 ⟨Nat.le_of_ble_eq_true rfl, Nat.le_of_ble_eq_true rfl⟩ rfl (Nat.le_of_ble_eq_true rfl) (kX8_gust er430) ?_
      refine R_aload DL_law_2043 2 rfl ?_
      refine R_aload DL_law_2044 0 rfl ?_
      refine R_iload DL_law_2045 3 rfl ?_
      refine R_constI DL_law_2046 ci_1 ?_
      refine R_iadd DL_law_2047 ?_
      obtain ⟨v431, ev431, h⟩ := bind_some h
      refine R_xI DL_law_2048 ev431 ?_
      refine R_aload DL_law_2049 0 rfl ?_
      refine R_iload DL_law_2050 3 rfl ?_
      refine R_constI DL_law_2051 ci_2 ?_
      refine R_iadd DL_law_2052 ?_
      obtain ⟨v432, ev432, h⟩ := bind_some h
      refine R_xI DL_law_2053 ev432 ?_
      refine R_aload DL_law_2054 0 rfl ?_
      refine R_iload DL_law_2055 3 rfl ?_
      refine R_constI DL_law_2056 ci_3 ?_
      refine R_iadd DL_law_2057 ?_
      obtain ⟨v433, ev433, h⟩ := bind_some h
      refine R_xI DL_law_2058 ev433 ?_
      refine R_aload DL_law_2059 0 rfl ?_
      refine R_iload DL_law_2060 3 rfl ?_
      refine R_constI DL_law_2061 ci_4 ?_
      refine R_iadd DL_law_2062 ?_
      obtain ⟨v434, ev434, h⟩ := bind_some h
      refine R_xI DL_law_2063 ev434 ?_
      obtain ⟨r435, er435, h⟩ := bind_some h
      refine R_cV1 [.int v431, .int v432, .int v433, .int v434] DL_law_2064 kzvX9_gust ml_RL_231 ⟨Nat.le_of_ble_eq_true rfl, Nat.le_of_ble_eq_true rfl⟩ rfl (Nat.le_of_ble_eq_true rfl) (kX9_gust er435) ?_
      by_cases c436 : r430.1 = r435.1
      · replace h := if_t h c436
        refine R_icmp_eq_t DL_law_2067 c436 ?_
        exact tL_law_b2428 h hc he0 he1
      · replace h := if_f h c436
        refine R_icmp_eq_f DL_law_2067 c436 ?_
        refine R.sub (L' := []) [] rfl ?_
        cases h
        exact (he1 _ rfl) 2070 (List.mem_of_getElem? (i := 52) rfl)
    replace h := if_f h c425
    by_cases c437 : (v6 &&& (iI 63)) = (iI 53)
    · replace h := if_t h c437
      refine R_tabIn (t := 2072) DL_law_33 (by rw [c437]; decide) (by rw [c437]; decide) (off := 2039) (by rw [c437]; rfl) (by decide) ?_
      refine R_aload DL_law_2072 1 rfl ?_
      refine R_aload DL_law_2073 0 rfl ?_
      refine R_iload DL_law_2074 3 rfl ?_
      refine R_constI DL_law_2075 ci_1 ?_
      refine R_iadd DL_law_2076 ?_
      obtain ⟨v438, ev438, h⟩ := bind_some h
      refine R_xI DL_law_2077 ev438 ?_
      refine R_aload DL_law_2078 0 rfl ?_
      refine R_iload DL_law_2079 3 rfl ?_
      refine R_constI DL_law_2080 ci_2 ?_
      refine R_iadd DL_law_2081 ?_
      obtain ⟨v439, ev439, h⟩ := bind_some h
      refine R_xI DL_law_2082 ev439 ?_
      refine R_aload DL_law_2083 0 rfl ?_
      refine R_iload DL_law_2084 3 rfl ?_
      refine R_constI DL_law_2085 ci_3 ?_
      refine R_iadd DL_law_2086 ?_
      obtain ⟨v440, ev440, h⟩ := bind_some h
      refine R_xI DL_law_2087 ev440 ?_
      refine R_aload DL_law_2088 0 rfl ?_
      refine R_iload DL_law_2089 3 rfl ?_
      refine R_constI DL_law_2090 ci_4 ?_
      refine R_iadd DL_law_2091 ?_
      obtain ⟨v441, ev441, h⟩ := bind_some h
      refine R_xI DL_law_2092 ev441 ?_
      refine R_aload DL_law_2093 0 rfl ?_
      refine R_iload DL_law_2094 3 rfl ?_
      refine R_constI DL_law_2095 ci_5 ?_
      refine R_iadd DL_law_2096 ?_
      obtain ⟨v442, ev442, h⟩ := bind_some h
      refine R_xI DL_law_2097 ev442 ?_
      refine R_aload DL_law_2098 0 rfl ?_
      refine R_iload DL_law_2099 3 rfl ?_
      refine R_constI DL_law_2100 ci_6 ?_
      refine R_iadd DL_law_2102 ?_
      obtain ⟨v443, ev443, h⟩ := bind_some h
      refine R_xI DL_law_2103 ev443 ?_
      obtain ⟨r444, er444, h⟩ := bind_some h
      refine R_cV1 [.int v438, .int v439, .int v440, .int v441, .int v442, .int v443] DL_law_2104 kzvX8_chance ml_RL_232 ⟨Nat.le_of_ble_eq_true rfl, Nat.le_of_ble_eq_true rfl⟩ rfl (Nat.le_of_ble_eq_true rfl) (kX8_chance er444) ?_
      refine R_aload DL_law_2107 2 rfl ?_
      refine R_aload DL_law_2108 0 rfl ?_
      refine R_iload DL_law_2109 3 rfl ?_
      refine R_constI DL_law_2110 ci_1 ?_
      refine R_iadd DL_law_2111 ?_
      obtain ⟨v445, ev445, h⟩ := bind_some h
      refine R_xI DL_law_2112 ev445 ?_
      refine R_aload DL_law_2113 0 rfl ?_
      refine R_iload DL_law_2114 3 rfl ?_
      refine R_constI DL_law_2115 ci_2 ?_
      refine R_iadd DL_law_2116 ?_
      obtain ⟨v446, ev446, h⟩ := bind_some h
      refine R_xI DL_law_2117 ev446 ?_
      refine R_aload DL_law_2118 0 rfl ?_
      refine R_iload DL_law_2119 3 rfl ?_
      refine R_constI DL_law_2120 ci_3 ?_
      refine R_iadd DL_law_2121 ?_
      obtain ⟨v447, ev447, h⟩ := bind_some h
      refine R_xI DL_law_2122 ev447 ?_
      refine R_aload DL_law_2123 0 rfl ?_
      refine R_iload DL_law_2124 3 rfl ?_
      refine R_constI DL_law_2125 ci_4 ?_
      refine R_iadd DL_law_2126 ?_
      obtain ⟨v448, ev448, h⟩ := bind_some h
      refine R_xI DL_law_2127 ev448 ?_
      refine R_aload DL_law_2128 0 rfl ?_
      refine R_iload DL_law_2129 3 rfl ?_
      refine R_constI DL_law_2130 ci_5 ?_
      refine R_iadd DL_law_2131 ?_
      obtain ⟨v449, ev449, h⟩ := bind_some h
      refine R_xI DL_law_2132 ev449 ?_
      refine R_aload DL_law_2133 0 rfl ?_
      refine R_iload DL_law_2134 3 rfl ?_
      refine R_constI DL_law_2135 ci_6 ?_
      refine R_iadd DL_law_2137 ?_
      obtain ⟨v450, ev450, h⟩ := bind_some h
      refine R_xI DL_law_2138 ev450 ?_
      obtain ⟨r451, er451, h⟩ := bind_some h
      refine R_cV1 [.int v445, .int v446, .int v447, .int v448, .int v449, .int v450] DL_law_2139 kzvX9_chance ml_RL_236 ⟨Nat.le_of_ble_eq_true rfl, Nat.le_of_ble_eq_true rfl⟩ rfl (Nat.le_of_ble_eq_true rfl) (kX9_chance er451) ?_
      by_cases c452 : r444.1 = r451.1
      · replace h := if_t h c452
        refine R_icmp_eq_t DL_law_2142 c452 ?_
        exact tL_law_b2428 h hc he0 he1
      · replace h := if_f h c452
        refine R_icmp_eq_f DL_law_2142 c452 ?_
        refine R.sub (L' := []) [] rfl ?_
        cases h
        exact (he1 _ rfl) 2145 (List.mem_of_getElem? (i := 53) rfl)
    replace h := if_f h c437
    by_cases c453 : (v6 &&& (iI 63)) = (iI 54)
    · replace h := if_t h c453
      refine R_tabIn (t := 2147) DL_law_33 (by rw [c453]; decide) (by rw [c453]; decide) (off := 2114) (by rw [c453]; rfl) (by decide) ?_
      refine R_aload DL_law_2147 1 rfl ?_
      refine R_aload DL_law_2148 0 rfl ?_
      refine R_iload DL_law_2149 3 rfl ?_
      refine R_constI DL_law_2150 ci_1 ?_
      refine R_iadd DL_law_2151 ?_
      obtain ⟨v454, ev454, h⟩ := bind_some h
      refine R_xI DL_law_2152 ev454 ?_
      refine R_aload DL_law_2153 0 rfl ?_
      refine R_iload DL_law_2154 3 rfl ?_
      refine R_constI DL_law_2155 ci_2 ?_
      refine R_iadd DL_law_2156 ?_
      obtain ⟨v455, ev455, h⟩ := bind_some h
      refine R_xI DL_law_2157 ev455 ?_
      obtain ⟨r456, er456, h⟩ := bind_some h
      refine R_cV1 [.int v454, .int v455] DL_law_2158 kzvX8_takings ml_RL_237 ⟨Nat.le_of_ble_eq_true rfl, Nat.le_of_ble_eq_true rfl⟩ rfl (Nat.le_of_ble_eq_true rfl) (kX8_takings er456) ?_
      refine R_aload DL_law_2161 2 rfl ?_
      refine R_aload DL_law_2162 0 rfl ?_
      refine R_iload DL_law_2163 3 rfl ?_
      refine R_constI DL_law_2164 ci_1 ?_
      refine R_iadd DL_law_2165 ?_
      obtain ⟨v457, ev457, h⟩ := bind_some h
      refine R_xI DL_law_2166 ev457 ?_
      refine R_aload DL_law_2167 0 rfl ?_
      refine R_iload DL_law_2168 3 rfl ?_
      refine R_constI DL_law_2169 ci_2 ?_
      refine R_iadd DL_law_2170 ?_
      obtain ⟨v458, ev458, h⟩ := bind_some h
      refine R_xI DL_law_2171 ev458 ?_
      obtain ⟨r459, er459, h⟩ := bind_some h
      refine R_cV1 [.int v457, .int v458] DL_law_2172 kzvX9_takings ml_RL_240 ⟨Nat.le_of_ble_eq_true rfl, Nat.le_of_ble_eq_true rfl⟩ rfl (Nat.le_of_ble_eq_true rfl) (kX9_takings er459) ?_
      by_cases c460 : r456.1 = r459.1
      · replace h := if_t h c460
        refine R_icmp_eq_t DL_law_2175 c460 ?_
        exact tL_law_b2428 h hc he0 he1
      · replace h := if_f h c460
        refine R_icmp_eq_f DL_law_2175 c460 ?_
        refine R.sub (L' := []) [] rfl ?_
        cases h
        exact (he1 _ rfl) 2178 (List.mem_of_getElem? (i := 54) rfl)
    replace h := if_f h c453
    by_cases c461 : (v6 &&& (iI 63)) = (iI 55)
    · replace h := if_t h c461
      refine R_tabIn (t := 2180) DL_law_33 (by rw [c461]; decide) (by rw [c461]; decide) (off := 2147) (by rw [c461]; rfl) (by decide) ?_
      refine R_aload DL_law_2180 1 rfl ?_
      refine R_aload DL_law_2181 0 rfl ?_
      refine R_iload DL_law_2182 3 rfl ?_
      refine R_constI DL_law_2183 ci_1 ?_
      refine R_iadd DL_law_2184 ?_
      obtain ⟨v462, ev462, h⟩ := bind_some h
      refine R_xI DL_law_2185 ev462 ?_
      obtain ⟨r463, er463, h⟩ := bind_some h
      refine R_cV1 [.int v462] DL_law_2186 kzvX8_count ml_RL_241 ⟨Nat.le_of_ble_eq_true rfl, Nat.le_of_ble_eq_true rfl⟩ rfl (Nat.le_of_ble_eq_true rfl) (kX8_count er463) ?_
      refine R_aload DL_law_2189 2 rfl ?_
      refine R_aload DL_law_2190 0 rfl ?_
      refine R_iload DL_law_2191 3 rfl ?_
      refine R_constI DL_law_2192 ci_1 ?_
      refine R_iadd DL_law_2193 ?_
      obtain ⟨v464, ev464, h⟩ := bind_some h
      refine R_xI DL_law_2194 ev464 ?_
      obtain ⟨r465, er465, h⟩ := bind_some h
      refine R_cV1 [.int v464] DL_law_2195 kzvX9_count ml_RL_244 ⟨Nat.le_of_ble_eq_true rfl, Nat.le_of_ble_eq_true rfl⟩ rfl (Nat.le_of_ble_eq_true rfl) (kX9_count er465) ?_
      by_cases c466 : r463.1 = r465.1
      · replace h := if_t h c466
        refine R_icmp_eq_t DL_law_2198 c466 ?_
        exact tL_law_b2428 h hc he0 he1
      · replace h := if_f h c466
        refine R_icmp_eq_f DL_law_2198 c466 ?_
        refine R.sub (L' := []) [] rfl ?_
        cases h
        exact (he1 _ rfl) 2201 (List.mem_of_getElem? (i := 55) rfl)
    replace h := if_f h c461
    by_cases c467 : (v6 &&& (iI 63)) = (iI 56)
    · replace h := if_t h c467
      refine R_tabIn (t := 2203) DL_law_33 (by rw [c467]; decide) (by rw [c467]; decide) (off := 2170) (by rw [c467]; rfl) (by decide) ?_
      refine R_aload DL_law_2203 1 rfl ?_
      refine R_aload DL_law_2204 0 rfl ?_
      refine R_iload DL_law_2205 3 rfl ?_
      refine R_constI DL_law_2206 ci_1 ?_
      refine R_iadd DL_law_2207 ?_
      obtain ⟨v468, ev468, h⟩ := bind_some h
      refine R_xI DL_law_2208 ev468 ?_
      obtain ⟨r469, er469, h⟩ := bind_some h
      refine R_cV1 [.int v468] DL_law_2209 kzvX8_keep ml_RL_245 ⟨Nat.le_of_ble_eq_true rfl, Nat.le_of_ble_eq_true rfl⟩ rfl (Nat.le_of_ble_eq_true rfl) (kX8_keep er469) ?_
      refine R_aload DL_law_2212 2 rfl ?_
      refine R_aload DL_law_2213 0 rfl ?_
      refine R_iload DL_law_2214 3 rfl ?_
      refine R_constI DL_law_2215 ci_1 ?_
      refine R_iadd DL_law_2216 ?_
      obtain ⟨v470, ev470, h⟩ := bind_some h
      refine R_xI DL_law_2217 ev470 ?_
      obtain ⟨r471, er471, h⟩ := bind_some h
      refine R_cV1 [.int v470] DL_law_2218 kzvX9_keep ml_RL_248 ⟨Nat.le_of_ble_eq_true rfl, Nat.le_of_ble_eq_true rfl⟩ rfl (Nat.le_of_ble_eq_true rfl) (kX9_keep er471) ?_
      by_cases c472 : r469.1 = r471.1
      · replace h := if_t h c472
        refine R_icmp_eq_t DL_law_2221 c472 ?_
        exact tL_law_b2428 h hc he0 he1
      · replace h := if_f h c472
        refine R_icmp_eq_f DL_law_2221 c472 ?_
        refine R.sub (L' := []) [] rfl ?_
        cases h
        exact (he1 _ rfl) 2224 (List.mem_of_getElem? (i := 56) rfl)
    replace h := if_f h c467
    by_cases c473 : (v6 &&& (iI 63)) = (iI 57)
    · replace h := if_t h c473
      refine R_tabIn (t := 2226) DL_law_33 (by rw [c473]; decide) (by rw [c473]; decide) (off := 2193) (by rw [c473]; rfl) (by decide) ?_
      refine R_aload DL_law_2226 1 rfl ?_
      refine R_aload DL_law_2227 0 rfl ?_
      refine R_iload DL_law_2228 3 rfl ?_
      refine R_constI DL_law_2229 ci_1 ?_
      refine R_iadd DL_law_2230 ?_
      obtain ⟨v474, ev474, h⟩ := bind_some h
      refine R_xI DL_law_2231 ev474 ?_
      obtain ⟨r475, er475, h⟩ := bind_some h
      refine R_cV1 [.int v474] DL_law_2232 kzvX8_back ml_RL_249 ⟨Nat.le_of_ble_eq_true rfl, Nat.le_of_ble_eq_true rfl⟩ rfl (Nat.le_of_ble_eq_true rfl) (kX8_back er475) ?_
      refine R_aload DL_law_2235 2 rfl ?_
      refine R_aload DL_law_2236 0 rfl ?_
      refine R_iload DL_law_2237 3 rfl ?_
      refine R_constI DL_law_2238 ci_1 ?_
      refine R_iadd DL_law_2239 ?_
      obtain ⟨v476, ev476, h⟩ := bind_some h
      refine R_xI DL_law_2240 ev476 ?_
      obtain ⟨r477, er477, h⟩ := bind_some h
      refine R_cV1 [.int v476] DL_law_2241 kzvX9_back ml_RL_252 ⟨Nat.le_of_ble_eq_true rfl, Nat.le_of_ble_eq_true rfl⟩ rfl (Nat.le_of_ble_eq_true rfl) (kX9_back er477) ?_
      by_cases c478 : r475.1 = r477.1
      · replace h := if_t h c478
        refine R_icmp_eq_t DL_law_2244 c478 ?_
        exact tL_law_b2428 h hc he0 he1
      · replace h := if_f h c478
        refine R_icmp_eq_f DL_law_2244 c478 ?_
        refine R.sub (L' := []) [] rfl ?_
        cases h
        exact (he1 _ rfl) 2247 (List.mem_of_getElem? (i := 57) rfl)
    replace h := if_f h c473
    by_cases c479 : (v6 &&& (iI 63)) = (iI 58)
    · replace h := if_t h c479
      refine R_tabIn (t := 2249) DL_law_33 (by rw [c479]; decide) (by rw [c479]; decide) (off := 2216) (by rw [c479]; rfl) (by decide) ?_
      refine R_aload DL_law_2249 1 rfl ?_
      refine R_aload DL_law_2250 0 rfl ?_
      refine R_iload DL_law_2251 3 rfl ?_
      refine R_constI DL_law_2252 ci_1 ?_
      refine R_iadd DL_law_2253 ?_
      obtain ⟨v480, ev480, h⟩ := bind_some h
      refine R_xI DL_law_2254 ev480 ?_
      refine R_aload DL_law_2255 0 rfl ?_
      refine R_iload DL_law_2256 3 rfl ?_
      refine R_constI DL_law_2257 ci_2 ?_
      refine R_iadd DL_law_2258 ?_
      obtain ⟨v481, ev481, h⟩ := bind_some h
      refine R_xI DL_law_2259 ev481 ?_
      refine R_aload DL_law_2260 0 rfl ?_
      refine R_iload DL_law_2261 3 rfl ?_
      refine R_constI DL_law_2262 ci_3 ?_
      refine R_iadd DL_law_2263 ?_
      obtain ⟨v482, ev482, h⟩ := bind_some h
      refine R_xI DL_law_2264 ev482 ?_
      obtain ⟨r483, er483, h⟩ := bind_some h
      refine R_cV1 [.int v480, .int v481, .int v482] DL_law_2265 kzvX8_row ml_RL_253 ⟨Nat.le_of_ble_eq_true rfl, Nat.le_of_ble_eq_true rfl⟩ rfl (Nat.le_of_ble_eq_true rfl) (kX8_row er483) ?_
      refine R_aload DL_law_2268 2 rfl ?_
      refine R_aload DL_law_2269 0 rfl ?_
      refine R_iload DL_law_2270 3 rfl ?_
      refine R_constI DL_law_2271 ci_1 ?_
      refine R_iadd DL_law_2272 ?_
      obtain ⟨v484, ev484, h⟩ := bind_some h
      refine R_xI DL_law_2273 ev484 ?_
      refine R_aload DL_law_2274 0 rfl ?_
      refine R_iload DL_law_2275 3 rfl ?_
      refine R_constI DL_law_2276 ci_2 ?_
      refine R_iadd DL_law_2277 ?_
      obtain ⟨v485, ev485, h⟩ := bind_some h
      refine R_xI DL_law_2278 ev485 ?_
      refine R_aload DL_law_2279 0 rfl ?_
      refine R_iload DL_law_2280 3 rfl ?_
      refine R_constI DL_law_2281 ci_3 ?_
      refine R_iadd DL_law_2282 ?_
      obtain ⟨v486, ev486, h⟩ := bind_some h
      refine R_xI DL_law_2283 ev486 ?_
      obtain ⟨r487, er487, h⟩ := bind_some h
      refine R_cV1 [.int v484, .int v485, .int v486] DL_law_2284 kzvX9_row ml_RL_256 ⟨Nat.le_of_ble_eq_true rfl, Nat.le_of_ble_eq_true rfl⟩ rfl (Nat.le_of_ble_eq_true rfl) (kX9_row er487) ?_
      by_cases c488 : r483.1 = r487.1
      · replace h := if_t h c488
        refine R_icmp_eq_t DL_law_2287 c488 ?_
        exact tL_law_b2428 h hc he0 he1
      · replace h := if_f h c488
        refine R_icmp_eq_f DL_law_2287 c488 ?_
        refine R.sub (L' := []) [] rfl ?_
        cases h
        exact (he1 _ rfl) 2290 (List.mem_of_getElem? (i := 58) rfl)
    replace h := if_f h c479
    by_cases c489 : (v6 &&& (iI 63)) = (iI 59)
    · replace h := if_t h c489
      refine R_tabIn (t := 2292) DL_law_33 (by rw [c489]; decide) (by rw [c489]; decide) (off := 2259) (by rw [c489]; rfl) (by decide) ?_
      refine R_aload DL_law_2292 1 rfl ?_
      refine R_aload DL_law_2293 0 rfl ?_
      refine R_iload DL_law_2294 3 rfl ?_
      refine R_constI DL_law_2295 ci_1 ?_
      refine R_iadd DL_law_2296 ?_
      obtain ⟨v490, ev490, h⟩ := bind_some h
      refine R_xI DL_law_2297 ev490 ?_
      refine R_aload DL_law_2298 0 rfl ?_
      refine R_iload DL_law_2299 3 rfl ?_
      refine R_constI DL_law_2300 ci_2 ?_
      refine R_iadd DL_law_2301 ?_
      obtain ⟨v491, ev491, h⟩ := bind_some h
      refine R_xI DL_law_2302 ev491 ?_
      refine R_aload DL_law_2303 0 rfl ?_
      refine R_iload DL_law_2304 3 rfl ?_
      refine R_constI DL_law_2305 ci_3 ?_
      refine R_iadd DL_law_2306 ?_
      obtain ⟨v492, ev492, h⟩ := bind_some h
      refine R_xI DL_law_2307 ev492 ?_
      refine R_i2l DL_law_2308 ?_
      refine R_constI DL_law_2309 ci_32 ?_
      refine R_lshl DL_law_2311 ?_
      refine R_aload DL_law_2312 0 rfl ?_
      refine R_iload DL_law_2313 3 rfl ?_
      refine R_constI DL_law_2314 ci_4 ?_
      refine R_iadd DL_law_2315 ?_
      obtain ⟨v493, ev493, h⟩ := bind_some h
      refine R_xI DL_law_2316 ev493 ?_
      refine R_i2l DL_law_2317 ?_
      refine R_ldc2 DL_law_2318 cw_RL_257 ?_
      refine R_land DL_law_2321 ?_
      refine R_lor DL_law_2322 ?_
      obtain ⟨r494, er494, h⟩ := bind_some h
      refine R_cV1 [.int v490, .int v491, .long ((lsh (Int32.toInt64 v492) (iI 32)) ||| ((Int32.toInt64 v493) &&& 4294967295))] DL_law_2323 kzvX8_write ml_RL_259 ⟨Nat.le_of_ble_eq_true rfl, Nat.le_of_ble_eq_true rfl⟩ rfl (Nat.le_of_ble_eq_true rfl) (kX8_write er494) ?_
      refine R_aload DL_law_2326 2 rfl ?_
      refine R_aload DL_law_2327 0 rfl ?_
      refine R_iload DL_law_2328 3 rfl ?_
      refine R_constI DL_law_2329 ci_1 ?_
      refine R_iadd DL_law_2330 ?_
      obtain ⟨v495, ev495, h⟩ := bind_some h
      refine R_xI DL_law_2331 ev495 ?_
      refine R_aload DL_law_2332 0 rfl ?_
      refine R_iload DL_law_2333 3 rfl ?_
      refine R_constI DL_law_2334 ci_2 ?_
      refine R_iadd DL_law_2335 ?_
      obtain ⟨v496, ev496, h⟩ := bind_some h
      refine R_xI DL_law_2336 ev496 ?_
      refine R_aload DL_law_2337 0 rfl ?_
      refine R_iload DL_law_2338 3 rfl ?_
      refine R_constI DL_law_2339 ci_3 ?_
      refine R_iadd DL_law_2340 ?_
      obtain ⟨v497, ev497, h⟩ := bind_some h
      refine R_xI DL_law_2341 ev497 ?_
      refine R_i2l DL_law_2342 ?_
      refine R_constI DL_law_2343 ci_32 ?_
      refine R_lshl DL_law_2345 ?_
      refine R_aload DL_law_2346 0 rfl ?_
      refine R_iload DL_law_2347 3 rfl ?_
      refine R_constI DL_law_2348 ci_4 ?_
      refine R_iadd DL_law_2349 ?_
      obtain ⟨v498, ev498, h⟩ := bind_some h
      refine R_xI DL_law_2350 ev498 ?_
      refine R_i2l DL_law_2351 ?_
      refine R_ldc2 DL_law_2352 cw_RL_257 ?_
      refine R_land DL_law_2355 ?_
      refine R_lor DL_law_2356 ?_
      obtain ⟨r499, er499, h⟩ := bind_some h
      refine R_cV1 [.int v495, .int v496, .long ((lsh (Int32.toInt64 v497) (iI 32)) ||| ((Int32.toInt64 v498) &&& 4294967295))] DL_law_2357 kzvX9_write ml_RL_263 ⟨Nat.le_of_ble_eq_true rfl, Nat.le_of_ble_eq_true rfl⟩ rfl (Nat.le_of_ble_eq_true rfl) (kX9_write er499) ?_
      by_cases c500 : r494.1 = r499.1
      · replace h := if_t h c500
        refine R_icmp_eq_t DL_law_2360 c500 ?_
        exact tL_law_b2428 h hc he0 he1
      · replace h := if_f h c500
        refine R_icmp_eq_f DL_law_2360 c500 ?_
        refine R.sub (L' := []) [] rfl ?_
        cases h
        exact (he1 _ rfl) 2363 (List.mem_of_getElem? (i := 59) rfl)
    replace h := if_f h c489
    by_cases c501 : (v6 &&& (iI 63)) = (iI 60)
    · replace h := if_t h c501
      refine R_tabIn (t := 2365) DL_law_33 (by rw [c501]; decide) (by rw [c501]; decide) (off := 2332) (by rw [c501]; rfl) (by decide) ?_
      refine R_aload DL_law_2365 1 rfl ?_
      refine R_aload DL_law_2366 0 rfl ?_
      refine R_iload DL_law_2367 3 rfl ?_
      refine R_constI DL_law_2368 ci_1 ?_
      refine R_iadd DL_law_2369 ?_
      obtain ⟨v502, ev502, h⟩ := bind_some h
      refine R_xI DL_law_2370 ev502 ?_
      refine R_aload DL_law_2371 0 rfl ?_
      refine R_iload DL_law_2372 3 rfl ?_
      refine R_constI DL_law_2373 ci_2 ?_
      refine R_iadd DL_law_2374 ?_
      obtain ⟨v503, ev503, h⟩ := bind_some h
      refine R_xI DL_law_2375 ev503 ?_
      refine R_aload DL_law_2376 0 rfl ?_
      refine R_iload DL_law_2377 3 rfl ?_
      refine R_constI DL_law_2378 ci_3 ?_
      refine R_iadd DL_law_2379 ?_
      obtain ⟨v504, ev504, h⟩ := bind_some h
      refine R_xI DL_law_2380 ev504 ?_
      refine R_aload DL_law_2381 0 rfl ?_
      refine R_iload DL_law_2382 3 rfl ?_
      refine R_constI DL_law_2383 ci_4 ?_
      refine R_iadd DL_law_2384 ?_
      obtain ⟨v505, ev505, h⟩ := bind_some h
      refine R_xI DL_law_2385 ev505 ?_
      refine R_aload DL_law_2386 0 rfl ?_
      refine R_iload DL_law_2387 3 rfl ?_
      refine R_constI DL_law_2388 ci_5 ?_
      refine R_iadd DL_law_2389 ?_
      obtain ⟨v506, ev506, h⟩ := bind_some h
      refine R_xI DL_law_2390 ev506 ?_
      obtain ⟨r507, er507, h⟩ := bind_some h
      refine R_cV1 [.int v502, .int v503, .int v504, .int v505, .int v506] DL_law_2391 kzvX8_paste ml_RL_264 ⟨Nat.le_of_ble_eq_true rfl, Nat.le_of_ble_eq_true rfl⟩ rfl (Nat.le_of_ble_eq_true rfl) (kX8_paste er507) ?_
      refine R_aload DL_law_2394 2 rfl ?_
      refine R_aload DL_law_2395 0 rfl ?_
      refine R_iload DL_law_2396 3 rfl ?_
      refine R_constI DL_law_2397 ci_1 ?_
      refine R_iadd DL_law_2398 ?_
      obtain ⟨v508, ev508, h⟩ := bind_some h
      refine R_xI DL_law_2399 ev508 ?_
      refine R_aload DL_law_2400 0 rfl ?_
      refine R_iload DL_law_2401 3 rfl ?_
      refine R_constI DL_law_2402 ci_2 ?_
      refine R_iadd DL_law_2403 ?_
      obtain ⟨v509, ev509, h⟩ := bind_some h
      refine R_xI DL_law_2404 ev509 ?_
      refine R_aload DL_law_2405 0 rfl ?_
      refine R_iload DL_law_2406 3 rfl ?_
      refine R_constI DL_law_2407 ci_3 ?_
      refine R_iadd DL_law_2408 ?_
      obtain ⟨v510, ev510, h⟩ := bind_some h
      refine R_xI DL_law_2409 ev510 ?_
      refine R_aload DL_law_2410 0 rfl ?_
      refine R_iload DL_law_2411 3 rfl ?_
      refine R_constI DL_law_2412 ci_4 ?_
      refine R_iadd DL_law_2413 ?_
      obtain ⟨v511, ev511, h⟩ := bind_some h
      refine R_xI DL_law_2414 ev511 ?_
      refine R_aload DL_law_2415 0 rfl ?_
      refine R_iload DL_law_2416 3 rfl ?_
      refine R_constI DL_law_2417 ci_5 ?_
      refine R_iadd DL_law_2418 ?_
      obtain ⟨v512, ev512, h⟩ := bind_some h
      refine R_xI DL_law_2419 ev512 ?_
      obtain ⟨r513, er513, h⟩ := bind_some h
      refine R_cV1 [.int v508, .int v509, .int v510, .int v511, .int v512] DL_law_2420 kzvX9_paste ml_RL_267 ⟨Nat.le_of_ble_eq_true rfl, Nat.le_of_ble_eq_true rfl⟩ rfl (Nat.le_of_ble_eq_true rfl) (kX9_paste er513) ?_
      by_cases c514 : r507.1 = r513.1
      · replace h := if_t h c514
        refine R_icmp_eq_t DL_law_2423 c514 ?_
        exact tL_law_b2428 h hc he0 he1
      · replace h := if_f h c514
        refine R_icmp_eq_f DL_law_2423 c514 ?_
        refine R.sub (L' := []) [] rfl ?_
        cases h
        exact (he1 _ rfl) 2426 (List.mem_of_getElem? (i := 60) rfl)
    replace h := if_f h c501
    have hto : (v6 &&& (iI 63)).toInt < 0 ∨ 60 < (v6 &&& (iI 63)).toInt := by
      refine tab_out fun k h1 h2 hk => ?_
      rcases (show k = 0 ∨ k = 1 ∨ k = 2 ∨ k = 3 ∨ k = 4 ∨ k = 5 ∨ k = 6 ∨ k = 7 ∨ k = 8 ∨ k = 9 ∨ k = 10 ∨ k = 11 ∨ k = 12 ∨ k = 13 ∨ k = 14 ∨ k = 15 ∨ k = 16 ∨ k = 17 ∨ k = 18 ∨ k = 19 ∨ k = 20 ∨ k = 21 ∨ k = 22 ∨ k = 23 ∨ k = 24 ∨ k = 25 ∨ k = 26 ∨ k = 27 ∨ k = 28 ∨ k = 29 ∨ k = 30 ∨ k = 31 ∨ k = 32 ∨ k = 33 ∨ k = 34 ∨ k = 35 ∨ k = 36 ∨ k = 37 ∨ k = 38 ∨ k = 39 ∨ k = 40 ∨ k = 41 ∨ k = 42 ∨ k = 43 ∨ k = 44 ∨ k = 45 ∨ k = 46 ∨ k = 47 ∨ k = 48 ∨ k = 49 ∨ k = 50 ∨ k = 51 ∨ k = 52 ∨ k = 53 ∨ k = 54 ∨ k = 55 ∨ k = 56 ∨ k = 57 ∨ k = 58 ∨ k = 59 ∨ k = 60 by omega) with rfl | rfl | rfl | rfl | rfl | rfl | rfl | rfl | rfl | rfl | rfl | rfl | rfl | rfl | rfl | rfl | rfl | rfl | rfl | rfl | rfl | rfl | rfl | rfl | rfl | rfl | rfl | rfl | rfl | rfl | rfl | rfl | rfl | rfl | rfl | rfl | rfl | rfl | rfl | rfl | rfl | rfl | rfl | rfl | rfl | rfl | rfl | rfl | rfl | rfl | rfl | rfl | rfl | rfl | rfl | rfl | rfl | rfl | rfl | rfl | rfl
      · exact c7 (Int32.toInt_inj.mp (hk.trans (by decide)))
      · exact c21 (Int32.toInt_inj.mp (hk.trans (by decide)))
      · exact c27 (Int32.toInt_inj.mp (hk.trans (by decide)))
      · exact c31 (Int32.toInt_inj.mp (hk.trans (by decide)))
      · exact c37 (Int32.toInt_inj.mp (hk.trans (by decide)))
      · exact c45 (Int32.toInt_inj.mp (hk.trans (by decide)))
      · exact c53 (Int32.toInt_inj.mp (hk.trans (by decide)))
      · exact c61 (Int32.toInt_inj.mp (hk.trans (by decide)))
      · exact c69 (Int32.toInt_inj.mp (hk.trans (by decide)))
      · exact c77 (Int32.toInt_inj.mp (hk.trans (by decide)))
      · exact c87 (Int32.toInt_inj.mp (hk.trans (by decide)))
      · exact c91 (Int32.toInt_inj.mp (hk.trans (by decide)))
      · exact c99 (Int32.toInt_inj.mp (hk.trans (by decide)))
      · exact c109 (Int32.toInt_inj.mp (hk.trans (by decide)))
      · exact c117 (Int32.toInt_inj.mp (hk.trans (by decide)))
      · exact c123 (Int32.toInt_inj.mp (hk.trans (by decide)))
      · exact c131 (Int32.toInt_inj.mp (hk.trans (by decide)))
      · exact c139 (Int32.toInt_inj.mp (hk.trans (by decide)))
      · exact c147 (Int32.toInt_inj.mp (hk.trans (by decide)))
      · exact c151 (Int32.toInt_inj.mp (hk.trans (by decide)))
      · exact c155 (Int32.toInt_inj.mp (hk.trans (by decide)))
      · exact c163 (Int32.toInt_inj.mp (hk.trans (by decide)))
      · exact c173 (Int32.toInt_inj.mp (hk.trans (by decide)))
      · exact c179 (Int32.toInt_inj.mp (hk.trans (by decide)))
      · exact c191 (Int32.toInt_inj.mp (hk.trans (by decide)))
      · exact c203 (Int32.toInt_inj.mp (hk.trans (by decide)))
      · exact c217 (Int32.toInt_inj.mp (hk.trans (by decide)))
      · exact c225 (Int32.toInt_inj.mp (hk.trans (by decide)))
      · exact c233 (Int32.toInt_inj.mp (hk.trans (by decide)))
      · exact c241 (Int32.toInt_inj.mp (hk.trans (by decide)))
      · exact c249 (Int32.toInt_inj.mp (hk.trans (by decide)))
      · exact c257 (Int32.toInt_inj.mp (hk.trans (by decide)))
      · exact c267 (Int32.toInt_inj.mp (hk.trans (by decide)))
      · exact c273 (Int32.toInt_inj.mp (hk.trans (by decide)))
      · exact c279 (Int32.toInt_inj.mp (hk.trans (by decide)))
      · exact c285 (Int32.toInt_inj.mp (hk.trans (by decide)))
      · exact c293 (Int32.toInt_inj.mp (hk.trans (by decide)))
      · exact c301 (Int32.toInt_inj.mp (hk.trans (by decide)))
      · exact c309 (Int32.toInt_inj.mp (hk.trans (by decide)))
      · exact c317 (Int32.toInt_inj.mp (hk.trans (by decide)))
      · exact c325 (Int32.toInt_inj.mp (hk.trans (by decide)))
      · exact c333 (Int32.toInt_inj.mp (hk.trans (by decide)))
      · exact c347 (Int32.toInt_inj.mp (hk.trans (by decide)))
      · exact c361 (Int32.toInt_inj.mp (hk.trans (by decide)))
      · exact c367 (Int32.toInt_inj.mp (hk.trans (by decide)))
      · exact c373 (Int32.toInt_inj.mp (hk.trans (by decide)))
      · exact c379 (Int32.toInt_inj.mp (hk.trans (by decide)))
      · exact c385 (Int32.toInt_inj.mp (hk.trans (by decide)))
      · exact c395 (Int32.toInt_inj.mp (hk.trans (by decide)))
      · exact c399 (Int32.toInt_inj.mp (hk.trans (by decide)))
      · exact c405 (Int32.toInt_inj.mp (hk.trans (by decide)))
      · exact c415 (Int32.toInt_inj.mp (hk.trans (by decide)))
      · exact c425 (Int32.toInt_inj.mp (hk.trans (by decide)))
      · exact c437 (Int32.toInt_inj.mp (hk.trans (by decide)))
      · exact c453 (Int32.toInt_inj.mp (hk.trans (by decide)))
      · exact c461 (Int32.toInt_inj.mp (hk.trans (by decide)))
      · exact c467 (Int32.toInt_inj.mp (hk.trans (by decide)))
      · exact c473 (Int32.toInt_inj.mp (hk.trans (by decide)))
      · exact c479 (Int32.toInt_inj.mp (hk.trans (by decide)))
      · exact c489 (Int32.toInt_inj.mp (hk.trans (by decide)))
      · exact c501 (Int32.toInt_inj.mp (hk.trans (by decide)))
    refine R_tabOut (t := 2428) DL_law_33 hto (by decide) ?_
    exact tL_law_b2428 h hc he0 he1
set_option maxRecDepth 20000 in
theorem kL_law {G : Gm} {s : Hp} {w : Int32 × Hp} (h : fL_law (gK G) (gN G) (gX G) s = some w) : R G ML_law 0 [(0, .ref (gS G))] [] s (some (.int w.1), w.2) := by
  unfold fL_law at h
  refine R_new DL_law_0 nc_RL_7 ?_
  obtain ⟨s1, es1, h⟩ := lt_some h
  rw [← es1]
  refine R_dup DL_law_3 rfl ?_
  obtain ⟨s2, es2, h⟩ := bind_some h
  refine R_cI [] DL_law_4 kziX8_init ml_RL_9 ⟨Nat.le_of_ble_eq_true rfl, Nat.le_of_ble_eq_true rfl⟩ rfl (Nat.le_of_ble_eq_true rfl) (kX8_init es2) ?_
  refine R_astore [(1, .ref s.1), (0, .ref (gS G))] DL_law_7 (by decide) rfl ?_
  refine R_new DL_law_8 nc_RL_10 ?_
  obtain ⟨s3, es3, h⟩ := lt_some h
  rw [← es3]
  refine R_dup DL_law_11 rfl ?_
  obtain ⟨s4, es4, h⟩ := bind_some h
  refine R_cI [] DL_law_12 kziX9_init ml_RL_12 ⟨Nat.le_of_ble_eq_true rfl, Nat.le_of_ble_eq_true rfl⟩ rfl (Nat.le_of_ble_eq_true rfl) (kX9_init es4) ?_
  refine R_astore [(2, .ref s2.1), (1, .ref s.1), (0, .ref (gS G))] DL_law_15 (by decide) rfl ?_
  refine R_constI DL_law_16 ci_0 ?_
  refine R_istore [(3, .int (iI 0)), (2, .ref s2.1), (1, .ref s.1), (0, .ref (gS G))] DL_law_17 (by decide) rfl ?_
  refine R.sub (L' := [(0, .ref (gS G)), (1, .ref s.1), (2, .ref s2.1), (3, .int (iI 0))]) [3, 2, 1, 0] rfl ?_
  obtain ⟨r515, hi, h⟩ := bind_some h
  have hE : (Sum.elim (fun u18 : Hp => R G ML_law 2434 [] [] u18 (some (.int w.1), w.2)) (fun u18 : Hp => ∀ t ∈ [353, 376, 389, 412, 445, 478, 511, 544, 577, 620, 633, 666, 709, 742, 765, 798, 831, 864, 877, 890, 923, 966, 989, 1042, 1095, 1158, 1191, 1224, 1258, 1291, 1324, 1367, 1390, 1413, 1436, 1469, 1502, 1535, 1568, 1601, 1634, 1697, 1760, 1783, 1806, 1829, 1852, 1895, 1908, 1931, 1974, 2017, 2070, 2145, 2178, 2201, 2224, 2247, 2290, 2363, 2426], R G ML_law t [] [] u18 (some (.int w.1), w.2))) r515 → ∀ (q3 : Int32) (qs : Hp), iter (fL_law_l18 (gN G) (gX G) (gK G) s.1 s2.1) FU (q3, qs) = some r515 → R G ML_law 18 [(0, .ref (gS G)), (1, .ref s.1), (2, .ref s2.1), (3, .int q3)] [] qs (some (.int w.1), w.2) := fun hX q3 qs hj => loop_R (fL_law_l18 (gN G) (gX G) (gK G) s.1 s2.1) (fun p18 : Int32 × Hp => R G ML_law 18 [(0, .ref (gS G)), (1, .ref s.1), (2, .ref s2.1), (3, .int p18.1)] [] p18.2 (some (.int w.1), w.2)) (Sum.elim (fun u18 : Hp => R G ML_law 2434 [] [] u18 (some (.int w.1), w.2)) (fun u18 : Hp => ∀ t ∈ [353, 376, 389, 412, 445, 478, 511, 544, 577, 620, 633, 666, 709, 742, 765, 798, 831, 864, 877, 890, 923, 966, 989, 1042, 1095, 1158, 1191, 1224, 1258, 1291, 1324, 1367, 1390, 1413, 1436, 1469, 1502, 1535, 1568, 1601, 1634, 1697, 1760, 1783, 1806, 1829, 1852, 1895, 1908, 1931, 1974, 2017, 2070, 2145, 2178, 2201, 2224, 2247, 2290, 2363, 2426], R G ML_law t [] [] u18 (some (.int w.1), w.2))) (fun a w hw hc he => tL_law_l18 hw (fun q3 qs e => hc (q3, qs) e) (fun qs e => he (.inl qs) e) (fun qs e => he (.inr qs) e)) FU (q3, qs) r515 hj hX
  refine hE ?_ _ _ hi
  clear hE hi
  rcases r515 with r515a | r515b
  · replace h := el_l h
    refine R_constI DL_law_2434 ci_1 ?_
    cases h
    exact R_zreturn rfl DL_law_2435 (by decide)
  replace h := el_r h
  refine List.forall_mem_cons.mpr ⟨?_, List.forall_mem_cons.mpr ⟨?_, List.forall_mem_cons.mpr ⟨?_, List.forall_mem_cons.mpr ⟨?_, List.forall_mem_cons.mpr ⟨?_, List.forall_mem_cons.mpr ⟨?_, List.forall_mem_cons.mpr ⟨?_, List.forall_mem_cons.mpr ⟨?_, List.forall_mem_cons.mpr ⟨?_, List.forall_mem_cons.mpr ⟨?_, List.forall_mem_cons.mpr ⟨?_, List.forall_mem_cons.mpr ⟨?_, List.forall_mem_cons.mpr ⟨?_, List.forall_mem_cons.mpr ⟨?_, List.forall_mem_cons.mpr ⟨?_, List.forall_mem_cons.mpr ⟨?_, List.forall_mem_cons.mpr ⟨?_, List.forall_mem_cons.mpr ⟨?_, List.forall_mem_cons.mpr ⟨?_, List.forall_mem_cons.mpr ⟨?_, List.forall_mem_cons.mpr ⟨?_, List.forall_mem_cons.mpr ⟨?_, List.forall_mem_cons.mpr ⟨?_, List.forall_mem_cons.mpr ⟨?_, List.forall_mem_cons.mpr ⟨?_, List.forall_mem_cons.mpr ⟨?_, List.forall_mem_cons.mpr ⟨?_, List.forall_mem_cons.mpr ⟨?_, List.forall_mem_cons.mpr ⟨?_, List.forall_mem_cons.mpr ⟨?_, List.forall_mem_cons.mpr ⟨?_, List.forall_mem_cons.mpr ⟨?_, List.forall_mem_cons.mpr ⟨?_, List.forall_mem_cons.mpr ⟨?_, List.forall_mem_cons.mpr ⟨?_, List.forall_mem_cons.mpr ⟨?_, List.forall_mem_cons.mpr ⟨?_, List.forall_mem_cons.mpr ⟨?_, List.forall_mem_cons.mpr ⟨?_, List.forall_mem_cons.mpr ⟨?_, List.forall_mem_cons.mpr ⟨?_, List.forall_mem_cons.mpr ⟨?_, List.forall_mem_cons.mpr ⟨?_, List.forall_mem_cons.mpr ⟨?_, List.forall_mem_cons.mpr ⟨?_, List.forall_mem_cons.mpr ⟨?_, List.forall_mem_cons.mpr ⟨?_, List.forall_mem_cons.mpr ⟨?_, List.forall_mem_cons.mpr ⟨?_, List.forall_mem_cons.mpr ⟨?_, List.forall_mem_cons.mpr ⟨?_, List.forall_mem_cons.mpr ⟨?_, List.forall_mem_cons.mpr ⟨?_, List.forall_mem_cons.mpr ⟨?_, List.forall_mem_cons.mpr ⟨?_, List.forall_mem_cons.mpr ⟨?_, List.forall_mem_cons.mpr ⟨?_, List.forall_mem_cons.mpr ⟨?_, List.forall_mem_cons.mpr ⟨?_, List.forall_mem_cons.mpr ⟨?_, List.forall_mem_cons.mpr ⟨?_, fun _ hz => absurd hz List.not_mem_nil⟩⟩⟩⟩⟩⟩⟩⟩⟩⟩⟩⟩⟩⟩⟩⟩⟩⟩⟩⟩⟩⟩⟩⟩⟩⟩⟩⟩⟩⟩⟩⟩⟩⟩⟩⟩⟩⟩⟩⟩⟩⟩⟩⟩⟩⟩⟩⟩⟩⟩⟩⟩⟩⟩⟩⟩⟩⟩⟩⟩⟩
  · refine R_constI DL_law_353 ci_0 ?_
    cases h
    exact R_zreturn rfl DL_law_354 (by decide)
  · refine R_constI DL_law_376 ci_0 ?_
    cases h
    exact R_zreturn rfl DL_law_377 (by decide)
  · refine R_constI DL_law_389 ci_0 ?_
    cases h
    exact R_zreturn rfl DL_law_390 (by decide)
  · refine R_constI DL_law_412 ci_0 ?_
    cases h
    exact R_zreturn rfl DL_law_413 (by decide)
  · refine R_constI DL_law_445 ci_0 ?_
    cases h
    exact R_zreturn rfl DL_law_446 (by decide)
  · refine R_constI DL_law_478 ci_0 ?_
    cases h
    exact R_zreturn rfl DL_law_479 (by decide)
  · refine R_constI DL_law_511 ci_0 ?_
    cases h
    exact R_zreturn rfl DL_law_512 (by decide)
  · refine R_constI DL_law_544 ci_0 ?_
    cases h
    exact R_zreturn rfl DL_law_545 (by decide)
  · refine R_constI DL_law_577 ci_0 ?_
    cases h
    exact R_zreturn rfl DL_law_578 (by decide)
  · refine R_constI DL_law_620 ci_0 ?_
    cases h
    exact R_zreturn rfl DL_law_621 (by decide)
  · refine R_constI DL_law_633 ci_0 ?_
    cases h
    exact R_zreturn rfl DL_law_634 (by decide)
  · refine R_constI DL_law_666 ci_0 ?_
    cases h
    exact R_zreturn rfl DL_law_667 (by decide)
  · refine R_constI DL_law_709 ci_0 ?_
    cases h
    exact R_zreturn rfl DL_law_710 (by decide)
  · refine R_constI DL_law_742 ci_0 ?_
    cases h
    exact R_zreturn rfl DL_law_743 (by decide)
  · refine R_constI DL_law_765 ci_0 ?_
    cases h
    exact R_zreturn rfl DL_law_766 (by decide)
  · refine R_constI DL_law_798 ci_0 ?_
    cases h
    exact R_zreturn rfl DL_law_799 (by decide)
  · refine R_constI DL_law_831 ci_0 ?_
    cases h
    exact R_zreturn rfl DL_law_832 (by decide)
  · refine R_constI DL_law_864 ci_0 ?_
    cases h
    exact R_zreturn rfl DL_law_865 (by decide)
  · refine R_constI DL_law_877 ci_0 ?_
    cases h
    exact R_zreturn rfl DL_law_878 (by decide)
  · refine R_constI DL_law_890 ci_0 ?_
    cases h
    exact R_zreturn rfl DL_law_891 (by decide)
  · refine R_constI DL_law_923 ci_0 ?_
    cases h
    exact R_zreturn rfl DL_law_924 (by decide)
  · refine R_constI DL_law_966 ci_0 ?_
    cases h
    exact R_zreturn rfl DL_law_967 (by decide)
  · refine R_constI DL_law_989 ci_0 ?_
    cases h
    exact R_zreturn rfl DL_law_990 (by decide)
  · refine R_constI DL_law_1042 ci_0 ?_
    cases h
    exact R_zreturn rfl DL_law_1043 (by decide)
  · refine R_constI DL_law_1095 ci_0 ?_
    cases h
    exact R_zreturn rfl DL_law_1096 (by decide)
  · refine R_constI DL_law_1158 ci_0 ?_
    cases h
    exact R_zreturn rfl DL_law_1159 (by decide)
  · refine R_constI DL_law_1191 ci_0 ?_
    cases h
    exact R_zreturn rfl DL_law_1192 (by decide)
  · refine R_constI DL_law_1224 ci_0 ?_
    cases h
    exact R_zreturn rfl DL_law_1225 (by decide)
  · refine R_constI DL_law_1258 ci_0 ?_
    cases h
    exact R_zreturn rfl DL_law_1259 (by decide)
  · refine R_constI DL_law_1291 ci_0 ?_
    cases h
    exact R_zreturn rfl DL_law_1292 (by decide)
  · refine R_constI DL_law_1324 ci_0 ?_
    cases h
    exact R_zreturn rfl DL_law_1325 (by decide)
  · refine R_constI DL_law_1367 ci_0 ?_
    cases h
    exact R_zreturn rfl DL_law_1368 (by decide)
  · refine R_constI DL_law_1390 ci_0 ?_
    cases h
    exact R_zreturn rfl DL_law_1391 (by decide)
  · refine R_constI DL_law_1413 ci_0 ?_
    cases h
    exact R_zreturn rfl DL_law_1414 (by decide)
  · refine R_constI DL_law_1436 ci_0 ?_
    cases h
    exact R_zreturn rfl DL_law_1437 (by decide)
  · refine R_constI DL_law_1469 ci_0 ?_
    cases h
    exact R_zreturn rfl DL_law_1470 (by decide)
  · refine R_constI DL_law_1502 ci_0 ?_
    cases h
    exact R_zreturn rfl DL_law_1503 (by decide)
  · refine R_constI DL_law_1535 ci_0 ?_
    cases h
    exact R_zreturn rfl DL_law_1536 (by decide)
  · refine R_constI DL_law_1568 ci_0 ?_
    cases h
    exact R_zreturn rfl DL_law_1569 (by decide)
  · refine R_constI DL_law_1601 ci_0 ?_
    cases h
    exact R_zreturn rfl DL_law_1602 (by decide)
  · refine R_constI DL_law_1634 ci_0 ?_
    cases h
    exact R_zreturn rfl DL_law_1635 (by decide)
  · refine R_constI DL_law_1697 ci_0 ?_
    cases h
    exact R_zreturn rfl DL_law_1698 (by decide)
  · refine R_constI DL_law_1760 ci_0 ?_
    cases h
    exact R_zreturn rfl DL_law_1761 (by decide)
  · refine R_constI DL_law_1783 ci_0 ?_
    cases h
    exact R_zreturn rfl DL_law_1784 (by decide)
  · refine R_constI DL_law_1806 ci_0 ?_
    cases h
    exact R_zreturn rfl DL_law_1807 (by decide)
  · refine R_constI DL_law_1829 ci_0 ?_
    cases h
    exact R_zreturn rfl DL_law_1830 (by decide)
  · refine R_constI DL_law_1852 ci_0 ?_
    cases h
    exact R_zreturn rfl DL_law_1853 (by decide)
  · refine R_constI DL_law_1895 ci_0 ?_
    cases h
    exact R_zreturn rfl DL_law_1896 (by decide)
  · refine R_constI DL_law_1908 ci_0 ?_
    cases h
    exact R_zreturn rfl DL_law_1909 (by decide)
  · refine R_constI DL_law_1931 ci_0 ?_
    cases h
    exact R_zreturn rfl DL_law_1932 (by decide)
  · refine R_constI DL_law_1974 ci_0 ?_
    cases h
    exact R_zreturn rfl DL_law_1975 (by decide)
  · refine R_constI DL_law_2017 ci_0 ?_
    cases h
    exact R_zreturn rfl DL_law_2018 (by decide)
  · refine R_constI DL_law_2070 ci_0 ?_
    cases h
    exact R_zreturn rfl DL_law_2071 (by decide)
  · refine R_constI DL_law_2145 ci_0 ?_
    cases h
    exact R_zreturn rfl DL_law_2146 (by decide)
  · refine R_constI DL_law_2178 ci_0 ?_
    cases h
    exact R_zreturn rfl DL_law_2179 (by decide)
  · refine R_constI DL_law_2201 ci_0 ?_
    cases h
    exact R_zreturn rfl DL_law_2202 (by decide)
  · refine R_constI DL_law_2224 ci_0 ?_
    cases h
    exact R_zreturn rfl DL_law_2225 (by decide)
  · refine R_constI DL_law_2247 ci_0 ?_
    cases h
    exact R_zreturn rfl DL_law_2248 (by decide)
  · refine R_constI DL_law_2290 ci_0 ?_
    cases h
    exact R_zreturn rfl DL_law_2291 (by decide)
  · refine R_constI DL_law_2363 ci_0 ?_
    cases h
    exact R_zreturn rfl DL_law_2364 (by decide)
  · refine R_constI DL_law_2426 ci_0 ?_
    cases h
    exact R_zreturn rfl DL_law_2427 (by decide)
