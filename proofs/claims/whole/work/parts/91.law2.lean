set_option maxRecDepth 100000 in
set_option maxHeartbeats 4000000 in
theorem law_ahead {p : Program} {l : Launch} {e : Env} {s : State} {m : MethodId} {below : List Frame} {meth : Method} {c : Code} {dC : Nat → ClassId} {dI : Nat → Nat → Nat} {cA : Nat → ClassId} {al : Nat → Nat} {b L : Nat} {xs : Nat → Int32} (C : LFx p s m c dC dI cA al b) (S : Scr al L xs (LA s) s) {i : Nat} (hi : i + 4 ≤ L) (hL : L ≤ 2048) {σ : St} (hI : Inv σ) (kk : ∀ τ, Inv τ → LWW p l e s m below meth c dC dI cA al b 876 (lvL i) [] τ) : LWW p l e s m below meth c dC dI cA al b 345 (lvL i) [] σ := by
  refine ww_aload_n C 2 rfl dL_law_345 ?_
  refine ww_aload_n C 3 rfl dL_law_346 ?_
  refine ww_iload_n C 0 rfl dL_law_347 ?_
  refine ww_iconst (v := 1) C dL_law_348 (by decide) ?_
  refine ww_iadd C dL_law_349 ?_
  refine ww_scr C S (sc_in hi hL 1 (by decide) (by decide)) dL_law_350 ?_
  refine ww_aload_n C 3 rfl dL_law_351 ?_
  refine ww_iload_n C 0 rfl dL_law_352 ?_
  refine ww_iconst (v := 2) C dL_law_353 (by decide) ?_
  refine ww_iadd C dL_law_354 ?_
  refine ww_scr C S (sc_in hi hL 2 (by decide) (by decide)) dL_law_355 ?_
  refine ww_vi (n := 2) (As := [.int (xs (nI i + 1).toNatClampNeg), .int (xs (nI i + 2).toNatClampNeg)]) (rest := []) C (c_X8_ahead shF_ok (k_ahead hI _ _)) (shc_0 shF_ok) rfl nq_505 nq_506 nq_507 nq_2 nq_508 (by decide +kernel) rfl rfl ⟨Nat.le_of_ble_eq_true rfl, Nat.le_of_ble_eq_true rfl, Nat.le_of_ble_eq_true rfl, Nat.le_of_ble_eq_true rfl⟩ (Nat.le_of_ble_eq_true rfl) dL_law_356 (fun r1 σ1 h1 => ?_)
  refine ww_aload_n C 1 rfl dL_law_359 ?_
  refine ww_aload_n C 3 rfl dL_law_360 ?_
  refine ww_iload_n C 0 rfl dL_law_361 ?_
  refine ww_iconst (v := 1) C dL_law_362 (by decide) ?_
  refine ww_iadd C dL_law_363 ?_
  refine ww_scr C S (sc_in hi hL 1 (by decide) (by decide)) dL_law_364 ?_
  refine ww_aload_n C 3 rfl dL_law_365 ?_
  refine ww_iload_n C 0 rfl dL_law_366 ?_
  refine ww_iconst (v := 2) C dL_law_367 (by decide) ?_
  refine ww_iadd C dL_law_368 ?_
  refine ww_scr C S (sc_in hi hL 2 (by decide) (by decide)) dL_law_369 ?_
  refine ww_vi (n := 2) (As := [.int (xs (nI i + 1).toNatClampNeg), .int (xs (nI i + 2).toNatClampNeg)]) (rest := [.int r1]) C (c_X9_ahead shF_ok h1) (shc_61 shF_ok) rfl nq_513 nq_514 nq_515 nq_5 nq_516 (by decide +kernel) rfl rfl ⟨Nat.le_of_ble_eq_true rfl, Nat.le_of_ble_eq_true rfl, Nat.le_of_ble_eq_true rfl, Nat.le_of_ble_eq_true rfl⟩ (Nat.le_of_ble_eq_true rfl) dL_law_370 (fun r2 σ2 h2 => ?_)
  exact ww_icmp_eq (tgt := 876) C dL_law_373 (by decide) (fun _ => kk σ2 h2.2) (fun hc => absurd h2.1 hc)
set_option maxRecDepth 100000 in
set_option maxHeartbeats 4000000 in
theorem law_meetings {p : Program} {l : Launch} {e : Env} {s : State} {m : MethodId} {below : List Frame} {meth : Method} {c : Code} {dC : Nat → ClassId} {dI : Nat → Nat → Nat} {cA : Nat → ClassId} {al : Nat → Nat} {b L : Nat} {xs : Nat → Int32} (C : LFx p s m c dC dI cA al b) (S : Scr al L xs (LA s) s) {i : Nat} (hi : i + 4 ≤ L) (hL : L ≤ 2048) {σ : St} (hI : Inv σ) (kk : ∀ τ, Inv τ → LWW p l e s m below meth c dC dI cA al b 876 (lvL i) [] τ) : LWW p l e s m below meth c dC dI cA al b 378 (lvL i) [] σ := by
  refine ww_aload_n C 2 rfl dL_law_378 ?_
  refine ww_aload_n C 3 rfl dL_law_379 ?_
  refine ww_iload_n C 0 rfl dL_law_380 ?_
  refine ww_iconst (v := 1) C dL_law_381 (by decide) ?_
  refine ww_iadd C dL_law_382 ?_
  refine ww_scr C S (sc_in hi hL 1 (by decide) (by decide)) dL_law_383 ?_
  refine ww_aload_n C 3 rfl dL_law_384 ?_
  refine ww_iload_n C 0 rfl dL_law_385 ?_
  refine ww_iconst (v := 2) C dL_law_386 (by decide) ?_
  refine ww_iadd C dL_law_387 ?_
  refine ww_scr C S (sc_in hi hL 2 (by decide) (by decide)) dL_law_388 ?_
  refine ww_vi (n := 2) (As := [.int (xs (nI i + 1).toNatClampNeg), .int (xs (nI i + 2).toNatClampNeg)]) (rest := []) C (c_X8_meetings shF_ok (k_meetings hI _ _)) (shc_0 shF_ok) rfl nq_525 nq_526 nq_527 nq_2 nq_528 (by decide +kernel) rfl rfl ⟨Nat.le_of_ble_eq_true rfl, Nat.le_of_ble_eq_true rfl, Nat.le_of_ble_eq_true rfl, Nat.le_of_ble_eq_true rfl⟩ (Nat.le_of_ble_eq_true rfl) dL_law_389 (fun r1 σ1 h1 => ?_)
  refine ww_aload_n C 1 rfl dL_law_392 ?_
  refine ww_aload_n C 3 rfl dL_law_393 ?_
  refine ww_iload_n C 0 rfl dL_law_394 ?_
  refine ww_iconst (v := 1) C dL_law_395 (by decide) ?_
  refine ww_iadd C dL_law_396 ?_
  refine ww_scr C S (sc_in hi hL 1 (by decide) (by decide)) dL_law_397 ?_
  refine ww_aload_n C 3 rfl dL_law_398 ?_
  refine ww_iload_n C 0 rfl dL_law_399 ?_
  refine ww_iconst (v := 2) C dL_law_400 (by decide) ?_
  refine ww_iadd C dL_law_401 ?_
  refine ww_scr C S (sc_in hi hL 2 (by decide) (by decide)) dL_law_402 ?_
  refine ww_vi (n := 2) (As := [.int (xs (nI i + 1).toNatClampNeg), .int (xs (nI i + 2).toNatClampNeg)]) (rest := [.int r1]) C (c_X9_meetings shF_ok h1) (shc_61 shF_ok) rfl nq_539 nq_540 nq_541 nq_5 nq_542 (by decide +kernel) rfl rfl ⟨Nat.le_of_ble_eq_true rfl, Nat.le_of_ble_eq_true rfl, Nat.le_of_ble_eq_true rfl, Nat.le_of_ble_eq_true rfl⟩ (Nat.le_of_ble_eq_true rfl) dL_law_403 (fun r2 σ2 h2 => ?_)
  exact ww_icmp_eq (tgt := 876) C dL_law_406 (by decide) (fun _ => kk σ2 h2.2) (fun hc => absurd h2.1 hc)
set_option maxRecDepth 100000 in
set_option maxHeartbeats 4000000 in
theorem law_edges {p : Program} {l : Launch} {e : Env} {s : State} {m : MethodId} {below : List Frame} {meth : Method} {c : Code} {dC : Nat → ClassId} {dI : Nat → Nat → Nat} {cA : Nat → ClassId} {al : Nat → Nat} {b L : Nat} {xs : Nat → Int32} (C : LFx p s m c dC dI cA al b) (S : Scr al L xs (LA s) s) {i : Nat} (hi : i + 4 ≤ L) (hL : L ≤ 2048) {σ : St} (hI : Inv σ) (kk : ∀ τ, Inv τ → LWW p l e s m below meth c dC dI cA al b 876 (lvL i) [] τ) : LWW p l e s m below meth c dC dI cA al b 411 (lvL i) [] σ := by
  refine ww_aload_n C 2 rfl dL_law_411 ?_
  refine ww_aload_n C 3 rfl dL_law_412 ?_
  refine ww_iload_n C 0 rfl dL_law_413 ?_
  refine ww_iconst (v := 1) C dL_law_414 (by decide) ?_
  refine ww_iadd C dL_law_415 ?_
  refine ww_scr C S (sc_in hi hL 1 (by decide) (by decide)) dL_law_416 ?_
  refine ww_vi (n := 1) (As := [.int (xs (nI i + 1).toNatClampNeg)]) (rest := []) C (c_X8_edges shF_ok (k_edges hI _)) (shc_0 shF_ok) rfl nq_552 nq_553 nq_554 nq_2 nq_555 (by decide +kernel) rfl rfl ⟨Nat.le_of_ble_eq_true rfl, Nat.le_of_ble_eq_true rfl, Nat.le_of_ble_eq_true rfl, Nat.le_of_ble_eq_true rfl⟩ (Nat.le_of_ble_eq_true rfl) dL_law_417 (fun r1 σ1 h1 => ?_)
  refine ww_aload_n C 1 rfl dL_law_420 ?_
  refine ww_aload_n C 3 rfl dL_law_421 ?_
  refine ww_iload_n C 0 rfl dL_law_422 ?_
  refine ww_iconst (v := 1) C dL_law_423 (by decide) ?_
  refine ww_iadd C dL_law_424 ?_
  refine ww_scr C S (sc_in hi hL 1 (by decide) (by decide)) dL_law_425 ?_
  refine ww_vi (n := 1) (As := [.int (xs (nI i + 1).toNatClampNeg)]) (rest := [.int r1]) C (c_X9_edges shF_ok h1) (shc_61 shF_ok) rfl nq_574 nq_575 nq_576 nq_5 nq_577 (by decide +kernel) rfl rfl ⟨Nat.le_of_ble_eq_true rfl, Nat.le_of_ble_eq_true rfl, Nat.le_of_ble_eq_true rfl, Nat.le_of_ble_eq_true rfl⟩ (Nat.le_of_ble_eq_true rfl) dL_law_426 (fun r2 σ2 h2 => ?_)
  exact ww_icmp_eq (tgt := 876) C dL_law_429 (by decide) (fun _ => kk σ2 h2.2) (fun hc => absurd h2.1 hc)
set_option maxRecDepth 100000 in
set_option maxHeartbeats 4000000 in
theorem law_rings {p : Program} {l : Launch} {e : Env} {s : State} {m : MethodId} {below : List Frame} {meth : Method} {c : Code} {dC : Nat → ClassId} {dI : Nat → Nat → Nat} {cA : Nat → ClassId} {al : Nat → Nat} {b L : Nat} {xs : Nat → Int32} (C : LFx p s m c dC dI cA al b) (S : Scr al L xs (LA s) s) {i : Nat} (hi : i + 4 ≤ L) (hL : L ≤ 2048) {σ : St} (hI : Inv σ) (kk : ∀ τ, Inv τ → LWW p l e s m below meth c dC dI cA al b 876 (lvL i) [] τ) : LWW p l e s m below meth c dC dI cA al b 434 (lvL i) [] σ := by
  refine ww_aload_n C 2 rfl dL_law_434 ?_
  refine ww_aload_n C 3 rfl dL_law_435 ?_
  refine ww_iload_n C 0 rfl dL_law_436 ?_
  refine ww_iconst (v := 1) C dL_law_437 (by decide) ?_
  refine ww_iadd C dL_law_438 ?_
  refine ww_scr C S (sc_in hi hL 1 (by decide) (by decide)) dL_law_439 ?_
  refine ww_aload_n C 3 rfl dL_law_440 ?_
  refine ww_iload_n C 0 rfl dL_law_441 ?_
  refine ww_iconst (v := 2) C dL_law_442 (by decide) ?_
  refine ww_iadd C dL_law_443 ?_
  refine ww_scr C S (sc_in hi hL 2 (by decide) (by decide)) dL_law_444 ?_
  refine ww_vi (n := 2) (As := [.int (xs (nI i + 1).toNatClampNeg), .int (xs (nI i + 2).toNatClampNeg)]) (rest := []) C (c_X8_rings shF_ok (k_rings hI _ _)) (shc_0 shF_ok) rfl nq_584 nq_585 nq_586 nq_2 nq_587 (by decide +kernel) rfl rfl ⟨Nat.le_of_ble_eq_true rfl, Nat.le_of_ble_eq_true rfl, Nat.le_of_ble_eq_true rfl, Nat.le_of_ble_eq_true rfl⟩ (Nat.le_of_ble_eq_true rfl) dL_law_445 (fun r1 σ1 h1 => ?_)
  refine ww_aload_n C 1 rfl dL_law_448 ?_
  refine ww_aload_n C 3 rfl dL_law_449 ?_
  refine ww_iload_n C 0 rfl dL_law_450 ?_
  refine ww_iconst (v := 1) C dL_law_451 (by decide) ?_
  refine ww_iadd C dL_law_452 ?_
  refine ww_scr C S (sc_in hi hL 1 (by decide) (by decide)) dL_law_453 ?_
  refine ww_aload_n C 3 rfl dL_law_454 ?_
  refine ww_iload_n C 0 rfl dL_law_455 ?_
  refine ww_iconst (v := 2) C dL_law_456 (by decide) ?_
  refine ww_iadd C dL_law_457 ?_
  refine ww_scr C S (sc_in hi hL 2 (by decide) (by decide)) dL_law_458 ?_
  refine ww_vi (n := 2) (As := [.int (xs (nI i + 1).toNatClampNeg), .int (xs (nI i + 2).toNatClampNeg)]) (rest := [.int r1]) C (c_X9_rings shF_ok h1) (shc_61 shF_ok) rfl nq_612 nq_613 nq_614 nq_5 nq_615 (by decide +kernel) rfl rfl ⟨Nat.le_of_ble_eq_true rfl, Nat.le_of_ble_eq_true rfl, Nat.le_of_ble_eq_true rfl, Nat.le_of_ble_eq_true rfl⟩ (Nat.le_of_ble_eq_true rfl) dL_law_459 (fun r2 σ2 h2 => ?_)
  exact ww_icmp_eq (tgt := 876) C dL_law_462 (by decide) (fun _ => kk σ2 h2.2) (fun hc => absurd h2.1 hc)
set_option maxRecDepth 100000 in
set_option maxHeartbeats 4000000 in
theorem law_first {p : Program} {l : Launch} {e : Env} {s : State} {m : MethodId} {below : List Frame} {meth : Method} {c : Code} {dC : Nat → ClassId} {dI : Nat → Nat → Nat} {cA : Nat → ClassId} {al : Nat → Nat} {b L : Nat} {xs : Nat → Int32} (C : LFx p s m c dC dI cA al b) (S : Scr al L xs (LA s) s) {i : Nat} (hi : i + 4 ≤ L) (hL : L ≤ 2048) {σ : St} (hI : Inv σ) (kk : ∀ τ, Inv τ → LWW p l e s m below meth c dC dI cA al b 876 (lvL i) [] τ) : LWW p l e s m below meth c dC dI cA al b 467 (lvL i) [] σ := by
  refine ww_aload_n C 2 rfl dL_law_467 ?_
  refine ww_vi (n := 0) (As := []) (rest := []) C (c_X8_first shF_ok (k_first hI)) (shc_0 shF_ok) rfl nq_653 nq_654 nq_655 nq_2 nq_656 (by decide +kernel) rfl rfl ⟨Nat.le_of_ble_eq_true rfl, Nat.le_of_ble_eq_true rfl, Nat.le_of_ble_eq_true rfl, Nat.le_of_ble_eq_true rfl⟩ (Nat.le_of_ble_eq_true rfl) dL_law_468 (fun r1 σ1 h1 => ?_)
  refine ww_aload_n C 1 rfl dL_law_471 ?_
  refine ww_vi (n := 0) (As := []) (rest := [.int r1]) C (c_X9_first shF_ok h1) (shc_61 shF_ok) rfl nq_657 nq_658 nq_659 nq_5 nq_660 (by decide +kernel) rfl rfl ⟨Nat.le_of_ble_eq_true rfl, Nat.le_of_ble_eq_true rfl, Nat.le_of_ble_eq_true rfl, Nat.le_of_ble_eq_true rfl⟩ (Nat.le_of_ble_eq_true rfl) dL_law_472 (fun r2 σ2 h2 => ?_)
  exact ww_icmp_eq (tgt := 876) C dL_law_475 (by decide) (fun _ => kk σ2 h2.2) (fun hc => absurd h2.1 hc)
set_option maxRecDepth 100000 in
set_option maxHeartbeats 4000000 in
theorem law_judge {p : Program} {l : Launch} {e : Env} {s : State} {m : MethodId} {below : List Frame} {meth : Method} {c : Code} {dC : Nat → ClassId} {dI : Nat → Nat → Nat} {cA : Nat → ClassId} {al : Nat → Nat} {b L : Nat} {xs : Nat → Int32} (C : LFx p s m c dC dI cA al b) (S : Scr al L xs (LA s) s) {i : Nat} (hi : i + 4 ≤ L) (hL : L ≤ 2048) {σ : St} (hI : Inv σ) (kk : ∀ τ, Inv τ → LWW p l e s m below meth c dC dI cA al b 876 (lvL i) [] τ) : LWW p l e s m below meth c dC dI cA al b 480 (lvL i) [] σ := by
  refine ww_aload_n C 2 rfl dL_law_480 ?_
  refine ww_aload_n C 3 rfl dL_law_481 ?_
  refine ww_iload_n C 0 rfl dL_law_482 ?_
  refine ww_iconst (v := 1) C dL_law_483 (by decide) ?_
  refine ww_iadd C dL_law_484 ?_
  refine ww_scr C S (sc_in hi hL 1 (by decide) (by decide)) dL_law_485 ?_
  refine ww_aload_n C 3 rfl dL_law_486 ?_
  refine ww_iload_n C 0 rfl dL_law_487 ?_
  refine ww_iconst (v := 2) C dL_law_488 (by decide) ?_
  refine ww_iadd C dL_law_489 ?_
  refine ww_scr C S (sc_in hi hL 2 (by decide) (by decide)) dL_law_490 ?_
  refine ww_i2l C dL_law_491 ?_
  refine ww_bipush (v := 32) C dL_law_492 (by decide) ?_
  refine ww_lshl C dL_law_494 ?_
  refine ww_aload_n C 3 rfl dL_law_495 ?_
  refine ww_iload_n C 0 rfl dL_law_496 ?_
  refine ww_iconst (v := 3) C dL_law_497 (by decide) ?_
  refine ww_iadd C dL_law_498 ?_
  refine ww_scr C S (sc_in hi hL 3 (by decide) (by decide)) dL_law_499 ?_
  refine ww_i2l C dL_law_500 ?_
  refine ww_ldc2 (v := 4294967295) C nq_6 dL_law_501 ?_
  refine ww_land C dL_law_504 ?_
  refine ww_lor C dL_law_505 ?_
  refine ww_vi (n := 2) (As := [.int (xs (nI i + 1).toNatClampNeg), .long ((((xs (nI i + 2).toNatClampNeg).toInt64 <<< ((32 : Int32).toInt64 &&& 63)) ||| ((xs (nI i + 3).toNatClampNeg).toInt64 &&& 4294967295)))]) (rest := []) C (c_X8_judge shF_ok (k_judge hI _ _)) (shc_0 shF_ok) rfl nq_661 nq_662 nq_663 nq_2 nq_664 (by decide +kernel) rfl rfl ⟨Nat.le_of_ble_eq_true rfl, Nat.le_of_ble_eq_true rfl, Nat.le_of_ble_eq_true rfl, Nat.le_of_ble_eq_true rfl⟩ (Nat.le_of_ble_eq_true rfl) dL_law_506 (fun r1 σ1 h1 => ?_)
  refine ww_aload_n C 1 rfl dL_law_509 ?_
  refine ww_aload_n C 3 rfl dL_law_510 ?_
  refine ww_iload_n C 0 rfl dL_law_511 ?_
  refine ww_iconst (v := 1) C dL_law_512 (by decide) ?_
  refine ww_iadd C dL_law_513 ?_
  refine ww_scr C S (sc_in hi hL 1 (by decide) (by decide)) dL_law_514 ?_
  refine ww_aload_n C 3 rfl dL_law_515 ?_
  refine ww_iload_n C 0 rfl dL_law_516 ?_
  refine ww_iconst (v := 2) C dL_law_517 (by decide) ?_
  refine ww_iadd C dL_law_518 ?_
  refine ww_scr C S (sc_in hi hL 2 (by decide) (by decide)) dL_law_519 ?_
  refine ww_i2l C dL_law_520 ?_
  refine ww_bipush (v := 32) C dL_law_521 (by decide) ?_
  refine ww_lshl C dL_law_523 ?_
  refine ww_aload_n C 3 rfl dL_law_524 ?_
  refine ww_iload_n C 0 rfl dL_law_525 ?_
  refine ww_iconst (v := 3) C dL_law_526 (by decide) ?_
  refine ww_iadd C dL_law_527 ?_
  refine ww_scr C S (sc_in hi hL 3 (by decide) (by decide)) dL_law_528 ?_
  refine ww_i2l C dL_law_529 ?_
  refine ww_ldc2 (v := 4294967295) C nq_6 dL_law_530 ?_
  refine ww_land C dL_law_533 ?_
  refine ww_lor C dL_law_534 ?_
  refine ww_vi (n := 2) (As := [.int (xs (nI i + 1).toNatClampNeg), .long ((((xs (nI i + 2).toNatClampNeg).toInt64 <<< ((32 : Int32).toInt64 &&& 63)) ||| ((xs (nI i + 3).toNatClampNeg).toInt64 &&& 4294967295)))]) (rest := [.int r1]) C (c_X9_judge shF_ok h1) (shc_61 shF_ok) rfl nq_683 nq_684 nq_685 nq_5 nq_686 (by decide +kernel) rfl rfl ⟨Nat.le_of_ble_eq_true rfl, Nat.le_of_ble_eq_true rfl, Nat.le_of_ble_eq_true rfl, Nat.le_of_ble_eq_true rfl⟩ (Nat.le_of_ble_eq_true rfl) dL_law_535 (fun r2 σ2 h2 => ?_)
  exact ww_icmp_eq (tgt := 876) C dL_law_538 (by decide) (fun _ => kk σ2 h2.2) (fun hc => absurd h2.1 hc)
set_option maxRecDepth 100000 in
set_option maxHeartbeats 4000000 in
theorem law_see {p : Program} {l : Launch} {e : Env} {s : State} {m : MethodId} {below : List Frame} {meth : Method} {c : Code} {dC : Nat → ClassId} {dI : Nat → Nat → Nat} {cA : Nat → ClassId} {al : Nat → Nat} {b L : Nat} {xs : Nat → Int32} (C : LFx p s m c dC dI cA al b) (S : Scr al L xs (LA s) s) {i : Nat} (hi : i + 4 ≤ L) (hL : L ≤ 2048) {σ : St} (hI : Inv σ) (kk : ∀ τ, Inv τ → LWW p l e s m below meth c dC dI cA al b 876 (lvL i) [] τ) : LWW p l e s m below meth c dC dI cA al b 543 (lvL i) [] σ := by
  refine ww_aload_n C 2 rfl dL_law_543 ?_
  refine ww_aload_n C 3 rfl dL_law_544 ?_
  refine ww_iload_n C 0 rfl dL_law_545 ?_
  refine ww_iconst (v := 1) C dL_law_546 (by decide) ?_
  refine ww_iadd C dL_law_547 ?_
  refine ww_scr C S (sc_in hi hL 1 (by decide) (by decide)) dL_law_548 ?_
  refine ww_aload_n C 3 rfl dL_law_549 ?_
  refine ww_iload_n C 0 rfl dL_law_550 ?_
  refine ww_iconst (v := 2) C dL_law_551 (by decide) ?_
  refine ww_iadd C dL_law_552 ?_
  refine ww_scr C S (sc_in hi hL 2 (by decide) (by decide)) dL_law_553 ?_
  refine ww_aload_n C 3 rfl dL_law_554 ?_
  refine ww_iload_n C 0 rfl dL_law_555 ?_
  refine ww_iconst (v := 3) C dL_law_556 (by decide) ?_
  refine ww_iadd C dL_law_557 ?_
  refine ww_scr C S (sc_in hi hL 3 (by decide) (by decide)) dL_law_558 ?_
  refine ww_vi (n := 3) (As := [.int (xs (nI i + 1).toNatClampNeg), .int (xs (nI i + 2).toNatClampNeg), .int (xs (nI i + 3).toNatClampNeg)]) (rest := []) C (c_X8_see shF_ok (k_see hI _ _ _)) (shc_0 shF_ok) rfl nq_707 nq_708 nq_709 nq_2 nq_710 (by decide +kernel) rfl rfl ⟨Nat.le_of_ble_eq_true rfl, Nat.le_of_ble_eq_true rfl, Nat.le_of_ble_eq_true rfl, Nat.le_of_ble_eq_true rfl⟩ (Nat.le_of_ble_eq_true rfl) dL_law_559 (fun r1 σ1 h1 => ?_)
  refine ww_aload_n C 1 rfl dL_law_562 ?_
  refine ww_aload_n C 3 rfl dL_law_563 ?_
  refine ww_iload_n C 0 rfl dL_law_564 ?_
  refine ww_iconst (v := 1) C dL_law_565 (by decide) ?_
  refine ww_iadd C dL_law_566 ?_
  refine ww_scr C S (sc_in hi hL 1 (by decide) (by decide)) dL_law_567 ?_
  refine ww_aload_n C 3 rfl dL_law_568 ?_
  refine ww_iload_n C 0 rfl dL_law_569 ?_
  refine ww_iconst (v := 2) C dL_law_570 (by decide) ?_
  refine ww_iadd C dL_law_571 ?_
  refine ww_scr C S (sc_in hi hL 2 (by decide) (by decide)) dL_law_572 ?_
  refine ww_aload_n C 3 rfl dL_law_573 ?_
  refine ww_iload_n C 0 rfl dL_law_574 ?_
  refine ww_iconst (v := 3) C dL_law_575 (by decide) ?_
  refine ww_iadd C dL_law_576 ?_
  refine ww_scr C S (sc_in hi hL 3 (by decide) (by decide)) dL_law_577 ?_
  refine ww_vi (n := 3) (As := [.int (xs (nI i + 1).toNatClampNeg), .int (xs (nI i + 2).toNatClampNeg), .int (xs (nI i + 3).toNatClampNeg)]) (rest := [.int r1]) C (c_X9_see shF_ok h1) (shc_61 shF_ok) rfl nq_716 nq_717 nq_718 nq_5 nq_719 (by decide +kernel) rfl rfl ⟨Nat.le_of_ble_eq_true rfl, Nat.le_of_ble_eq_true rfl, Nat.le_of_ble_eq_true rfl, Nat.le_of_ble_eq_true rfl⟩ (Nat.le_of_ble_eq_true rfl) dL_law_578 (fun r2 σ2 h2 => ?_)
  exact ww_icmp_eq (tgt := 876) C dL_law_581 (by decide) (fun _ => kk σ2 h2.2) (fun hc => absurd h2.1 hc)
set_option maxRecDepth 100000 in
set_option maxHeartbeats 4000000 in
theorem law_unsee {p : Program} {l : Launch} {e : Env} {s : State} {m : MethodId} {below : List Frame} {meth : Method} {c : Code} {dC : Nat → ClassId} {dI : Nat → Nat → Nat} {cA : Nat → ClassId} {al : Nat → Nat} {b L : Nat} {xs : Nat → Int32} (C : LFx p s m c dC dI cA al b) (S : Scr al L xs (LA s) s) {i : Nat} (hi : i + 4 ≤ L) (hL : L ≤ 2048) {σ : St} (hI : Inv σ) (kk : ∀ τ, Inv τ → LWW p l e s m below meth c dC dI cA al b 876 (lvL i) [] τ) : LWW p l e s m below meth c dC dI cA al b 586 (lvL i) [] σ := by
  refine ww_aload_n C 2 rfl dL_law_586 ?_
  refine ww_vi (n := 0) (As := []) (rest := []) C (c_X8_unsee shF_ok (k_unsee hI)) (shc_0 shF_ok) rfl nq_721 nq_722 nq_723 nq_2 nq_724 (by decide +kernel) rfl rfl ⟨Nat.le_of_ble_eq_true rfl, Nat.le_of_ble_eq_true rfl, Nat.le_of_ble_eq_true rfl, Nat.le_of_ble_eq_true rfl⟩ (Nat.le_of_ble_eq_true rfl) dL_law_587 (fun r1 σ1 h1 => ?_)
  refine ww_aload_n C 1 rfl dL_law_590 ?_
  refine ww_vi (n := 0) (As := []) (rest := [.int r1]) C (c_X9_unsee shF_ok h1) (shc_61 shF_ok) rfl nq_725 nq_726 nq_727 nq_5 nq_728 (by decide +kernel) rfl rfl ⟨Nat.le_of_ble_eq_true rfl, Nat.le_of_ble_eq_true rfl, Nat.le_of_ble_eq_true rfl, Nat.le_of_ble_eq_true rfl⟩ (Nat.le_of_ble_eq_true rfl) dL_law_591 (fun r2 σ2 h2 => ?_)
  exact ww_icmp_eq (tgt := 876) C dL_law_594 (by decide) (fun _ => kk σ2 h2.2) (fun hc => absurd h2.1 hc)
