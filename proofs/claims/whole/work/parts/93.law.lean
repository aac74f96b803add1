/-! THE LAW: its cases -/
section LC
variable {p : Program} {l : Launch} {e : Env} {s : State} {m : MethodId} {below : List Frame} {meth : Method} {c : Code} {H : Heap} {locs : List Loc} {cells slots : Nat} {Q : State → Prop}
variable {ls : Array Slot} {D : va_G} {G : z_G} {b L : Nat} {xs : Nat → Int32} {BC i B : Nat} {dc dm : Dt}
set_option maxHeartbeats 4000000 in
set_option maxRecDepth 100000 in
theorem lw_out (h0 : LEn p s m c D G b L xs BC) (hS : LSt D G s BC dc dm H locs) (hl : lv_has ls 4 (llv b BC i)) (hi : i + 4 ≤ L) (hcl : cells ≤ 600000 ∧ slots ≤ 7302250) (hB : B + 100 < 2 ^ 31) (hR : Rel dc dm B)
    (next : ∀ (dc1 dm1 : Dt) (H1 : Heap) (locs1 : List Loc), Rel dc1 dm1 (B + 99) → LSt D G s BC dc1 dm1 H1 locs1 → W p l e room_1 s m #[Value.ref b] below meth c H1 locs1 cells slots Q (F0 m 1003 ls [])) : W p l e room_1 s m #[Value.ref b] below meth c H locs cells slots Q (F0 m 410 ls []) := by
  obtain ⟨hx, hb, hml, hown, hts, hK, hX, hbl, hBC, hL⟩ := id h0
  by_cases hw : xs (i + 3) = 0
  · obtain ⟨r, dm1, e1, e2, hR1⟩ := p_out hR (xs (i + 1)) (xs (i + 2)) (0)
    refine lv_aload_n hx hb dL_law_410 rfl (lv_at hl 2 rfl) ?_
    refine l_arg (j := 1) h0 hS hl (by omega) (by decide) dL_law_411 dL_law_412 dL_law_413 dL_law_414 dL_law_415 ?_
    refine l_arg (j := 2) h0 hS hl (by omega) (by decide) dL_law_416 dL_law_417 dL_law_418 dL_law_419 dL_law_420 ?_
    refine l_arg (j := 3) h0 hS hl (by omega) (by decide) dL_law_421 dL_law_422 dL_law_423 dL_law_424 dL_law_425 ?_
    refine lv_if_eq (tgt := 433) hx hb dL_law_426 (by decide) (fun _ => ?_) (fun q => absurd hw q)
    refine lv_iconst (v := 0) hx hb dL_law_433 (by decide) ?_
    refine lc_C (As := [.int (xs (i + 1)), .int (xs (i + 2)), .int (0)]) (rest := []) h0 hS (kX5_out (ad := aC BC) (dC_all BC) (Or.inl rfl) e1) giL_56 ⟨rfl, rfl⟩ ndL_56 ⟨(Nat.le_of_ble_eq_true rfl), (Nat.le_of_ble_eq_true rfl)⟩ rfl hl.1 rfl (Nat.le_of_ble_eq_true rfl) hcl dL_law_434 (fun H locs hS => ?_)
    refine lv_aload_n hx hb dL_law_437 rfl (lv_at hl 1 rfl) ?_
    refine l_arg (j := 1) h0 hS hl (by omega) (by decide) dL_law_438 dL_law_439 dL_law_440 dL_law_441 dL_law_442 ?_
    refine l_arg (j := 2) h0 hS hl (by omega) (by decide) dL_law_443 dL_law_444 dL_law_445 dL_law_446 dL_law_447 ?_
    refine l_arg (j := 3) h0 hS hl (by omega) (by decide) dL_law_448 dL_law_449 dL_law_450 dL_law_451 dL_law_452 ?_
    refine lv_if_eq (tgt := 460) hx hb dL_law_453 (by decide) (fun _ => ?_) (fun q => absurd hw q)
    refine lv_iconst (v := 0) hx hb dL_law_460 (by decide) ?_
    refine lc_M (As := [.int (xs (i + 1)), .int (xs (i + 2)), .int (0)]) (rest := [.int r]) h0 hS (kX6_out (ad := aM BC) (dM_all BC) (Or.inl rfl) e2) giL_60 ⟨rfl, rfl⟩ ndL_60 ⟨(Nat.le_of_ble_eq_true rfl), (Nat.le_of_ble_eq_true rfl)⟩ rfl hl.1 rfl (Nat.le_of_ble_eq_true rfl) hcl dL_law_461 (fun H locs hS => ?_)
    refine lv_icmp_eq (tgt := 1003) hx hb dL_law_464 (by decide) (fun _ => ?_) (fun hne => absurd rfl hne)
    exact next dc dm1 H locs (rel_m (by omega) hR1) hS
  · obtain ⟨r, dm1, e1, e2, hR1⟩ := p_out hR (xs (i + 1)) (xs (i + 2)) (1)
    refine lv_aload_n hx hb dL_law_410 rfl (lv_at hl 2 rfl) ?_
    refine l_arg (j := 1) h0 hS hl (by omega) (by decide) dL_law_411 dL_law_412 dL_law_413 dL_law_414 dL_law_415 ?_
    refine l_arg (j := 2) h0 hS hl (by omega) (by decide) dL_law_416 dL_law_417 dL_law_418 dL_law_419 dL_law_420 ?_
    refine l_arg (j := 3) h0 hS hl (by omega) (by decide) dL_law_421 dL_law_422 dL_law_423 dL_law_424 dL_law_425 ?_
    refine lv_if_eq (tgt := 433) hx hb dL_law_426 (by decide) (fun q => absurd q hw) (fun _ => ?_)
    refine lv_iconst (v := 1) hx hb dL_law_429 (by decide) ?_
    refine lv_goto (tgt := 434) hx hb dL_law_430 (by decide) ?_
    refine lc_C (As := [.int (xs (i + 1)), .int (xs (i + 2)), .int (1)]) (rest := []) h0 hS (kX5_out (ad := aC BC) (dC_all BC) (Or.inr rfl) e1) giL_56 ⟨rfl, rfl⟩ ndL_56 ⟨(Nat.le_of_ble_eq_true rfl), (Nat.le_of_ble_eq_true rfl)⟩ rfl hl.1 rfl (Nat.le_of_ble_eq_true rfl) hcl dL_law_434 (fun H locs hS => ?_)
    refine lv_aload_n hx hb dL_law_437 rfl (lv_at hl 1 rfl) ?_
    refine l_arg (j := 1) h0 hS hl (by omega) (by decide) dL_law_438 dL_law_439 dL_law_440 dL_law_441 dL_law_442 ?_
    refine l_arg (j := 2) h0 hS hl (by omega) (by decide) dL_law_443 dL_law_444 dL_law_445 dL_law_446 dL_law_447 ?_
    refine l_arg (j := 3) h0 hS hl (by omega) (by decide) dL_law_448 dL_law_449 dL_law_450 dL_law_451 dL_law_452 ?_
    refine lv_if_eq (tgt := 460) hx hb dL_law_453 (by decide) (fun q => absurd q hw) (fun _ => ?_)
    refine lv_iconst (v := 1) hx hb dL_law_456 (by decide) ?_
    refine lv_goto (tgt := 461) hx hb dL_law_457 (by decide) ?_
    refine lc_M (As := [.int (xs (i + 1)), .int (xs (i + 2)), .int (1)]) (rest := [.int r]) h0 hS (kX6_out (ad := aM BC) (dM_all BC) (Or.inr rfl) e2) giL_60 ⟨rfl, rfl⟩ ndL_60 ⟨(Nat.le_of_ble_eq_true rfl), (Nat.le_of_ble_eq_true rfl)⟩ rfl hl.1 rfl (Nat.le_of_ble_eq_true rfl) hcl dL_law_461 (fun H locs hS => ?_)
    refine lv_icmp_eq (tgt := 1003) hx hb dL_law_464 (by decide) (fun _ => ?_) (fun hne => absurd rfl hne)
    exact next dc dm1 H locs (rel_m (by omega) hR1) hS
set_option maxHeartbeats 4000000 in
set_option maxRecDepth 100000 in
theorem lw_open (h0 : LEn p s m c D G b L xs BC) (hS : LSt D G s BC dc dm H locs) (hl : lv_has ls 4 (llv b BC i)) (hi : i + 4 ≤ L) (hcl : cells ≤ 600000 ∧ slots ≤ 7302250) (hB : B + 100 < 2 ^ 31) (hR : Rel dc dm B)
    (next : ∀ (dc1 dm1 : Dt) (H1 : Heap) (locs1 : List Loc), Rel dc1 dm1 (B + 99) → LSt D G s BC dc1 dm1 H1 locs1 → W p l e room_1 s m #[Value.ref b] below meth c H1 locs1 cells slots Q (F0 m 1003 ls [])) : W p l e room_1 s m #[Value.ref b] below meth c H locs cells slots Q (F0 m 469 ls []) := by
  obtain ⟨hx, hb, hml, hown, hts, hK, hX, hbl, hBC, hL⟩ := id h0
  obtain ⟨r, dc1, dm1, e1, e2, hR1⟩ := p_open (by omega) hR (xs (i + 1))
  refine lv_aload_n hx hb dL_law_469 rfl (lv_at hl 2 rfl) ?_
  refine l_arg (j := 1) h0 hS hl (by omega) (by decide) dL_law_470 dL_law_471 dL_law_472 dL_law_473 dL_law_474 ?_
  refine lc_C (As := [.int (xs (i + 1))]) (rest := []) h0 hS (kX5_open (ad := aC BC) (dC_all BC) e1) giL_61 ⟨rfl, rfl⟩ ndL_61 ⟨(Nat.le_of_ble_eq_true rfl), (Nat.le_of_ble_eq_true rfl)⟩ rfl hl.1 rfl (Nat.le_of_ble_eq_true rfl) hcl dL_law_475 (fun H locs hS => ?_)
  refine lv_aload_n hx hb dL_law_478 rfl (lv_at hl 1 rfl) ?_
  refine l_arg (j := 1) h0 hS hl (by omega) (by decide) dL_law_479 dL_law_480 dL_law_481 dL_law_482 dL_law_483 ?_
  refine lc_M (As := [.int (xs (i + 1))]) (rest := [.int r]) h0 hS (kX6_open (ad := aM BC) (dM_all BC) e2) giL_64 ⟨rfl, rfl⟩ ndL_64 ⟨(Nat.le_of_ble_eq_true rfl), (Nat.le_of_ble_eq_true rfl)⟩ rfl hl.1 rfl (Nat.le_of_ble_eq_true rfl) hcl dL_law_484 (fun H locs hS => ?_)
  refine lv_icmp_eq (tgt := 1003) hx hb dL_law_487 (by decide) (fun _ => ?_) (fun hne => absurd rfl hne)
  exact next dc1 dm1 H locs (rel_m (by omega) hR1) hS
set_option maxHeartbeats 4000000 in
set_option maxRecDepth 100000 in
theorem lw_close (h0 : LEn p s m c D G b L xs BC) (hS : LSt D G s BC dc dm H locs) (hl : lv_has ls 4 (llv b BC i)) (hi : i + 4 ≤ L) (hcl : cells ≤ 600000 ∧ slots ≤ 7302250) (hB : B + 100 < 2 ^ 31) (hR : Rel dc dm B)
    (next : ∀ (dc1 dm1 : Dt) (H1 : Heap) (locs1 : List Loc), Rel dc1 dm1 (B + 99) → LSt D G s BC dc1 dm1 H1 locs1 → W p l e room_1 s m #[Value.ref b] below meth c H1 locs1 cells slots Q (F0 m 1003 ls [])) : W p l e room_1 s m #[Value.ref b] below meth c H locs cells slots Q (F0 m 492 ls []) := by
  obtain ⟨hx, hb, hml, hown, hts, hK, hX, hbl, hBC, hL⟩ := id h0
  obtain ⟨r, dc1, dm1, e1, e2, hR1⟩ := p_close (by omega) hR 
  refine lv_aload_n hx hb dL_law_492 rfl (lv_at hl 2 rfl) ?_
  refine lc_C (As := []) (rest := []) h0 hS (kX5_close (ad := aC BC) (dC_all BC) e1) giL_65 ⟨rfl, rfl⟩ ndL_65 ⟨(Nat.le_of_ble_eq_true rfl), (Nat.le_of_ble_eq_true rfl)⟩ rfl hl.1 rfl (Nat.le_of_ble_eq_true rfl) hcl dL_law_493 (fun H locs hS => ?_)
  refine lv_aload_n hx hb dL_law_496 rfl (lv_at hl 1 rfl) ?_
  refine lc_M (As := []) (rest := [.int r]) h0 hS (kX6_close (ad := aM BC) (dM_all BC) e2) giL_68 ⟨rfl, rfl⟩ ndL_68 ⟨(Nat.le_of_ble_eq_true rfl), (Nat.le_of_ble_eq_true rfl)⟩ rfl hl.1 rfl (Nat.le_of_ble_eq_true rfl) hcl dL_law_497 (fun H locs hS => ?_)
  refine lv_icmp_eq (tgt := 1003) hx hb dL_law_500 (by decide) (fun _ => ?_) (fun hne => absurd rfl hne)
  exact next dc1 dm1 H locs (rel_m (by omega) hR1) hS
set_option maxHeartbeats 4000000 in
set_option maxRecDepth 100000 in
theorem lw_tell (h0 : LEn p s m c D G b L xs BC) (hS : LSt D G s BC dc dm H locs) (hl : lv_has ls 4 (llv b BC i)) (hi : i + 4 ≤ L) (hcl : cells ≤ 600000 ∧ slots ≤ 7302250) (hB : B + 100 < 2 ^ 31) (hR : Rel dc dm B)
    (next : ∀ (dc1 dm1 : Dt) (H1 : Heap) (locs1 : List Loc), Rel dc1 dm1 (B + 99) → LSt D G s BC dc1 dm1 H1 locs1 → W p l e room_1 s m #[Value.ref b] below meth c H1 locs1 cells slots Q (F0 m 1003 ls [])) : W p l e room_1 s m #[Value.ref b] below meth c H locs cells slots Q (F0 m 505 ls []) := by
  obtain ⟨hx, hb, hml, hown, hts, hK, hX, hbl, hBC, hL⟩ := id h0
  obtain ⟨r, dc1, dm1, e1, e2, hR1⟩ := p_tell (by omega) hR (xs (i + 1))
  refine lv_aload_n hx hb dL_law_505 rfl (lv_at hl 2 rfl) ?_
  refine l_arg (j := 1) h0 hS hl (by omega) (by decide) dL_law_506 dL_law_507 dL_law_508 dL_law_509 dL_law_510 ?_
  refine lc_C (As := [.int (xs (i + 1))]) (rest := []) h0 hS (kX5_tell (ad := aC BC) (dC_all BC) e1) giL_69 ⟨rfl, rfl⟩ ndL_69 ⟨(Nat.le_of_ble_eq_true rfl), (Nat.le_of_ble_eq_true rfl)⟩ rfl hl.1 rfl (Nat.le_of_ble_eq_true rfl) hcl dL_law_511 (fun H locs hS => ?_)
  refine lv_aload_n hx hb dL_law_514 rfl (lv_at hl 1 rfl) ?_
  refine l_arg (j := 1) h0 hS hl (by omega) (by decide) dL_law_515 dL_law_516 dL_law_517 dL_law_518 dL_law_519 ?_
  refine lc_M (As := [.int (xs (i + 1))]) (rest := [.int r]) h0 hS (kX6_tell (ad := aM BC) (dM_all BC) e2) giL_72 ⟨rfl, rfl⟩ ndL_72 ⟨(Nat.le_of_ble_eq_true rfl), (Nat.le_of_ble_eq_true rfl)⟩ rfl hl.1 rfl (Nat.le_of_ble_eq_true rfl) hcl dL_law_520 (fun H locs hS => ?_)
  refine lv_icmp_eq (tgt := 1003) hx hb dL_law_523 (by decide) (fun _ => ?_) (fun hne => absurd rfl hne)
  exact next dc1 dm1 H locs (rel_m (by omega) hR1) hS
set_option maxHeartbeats 4000000 in
set_option maxRecDepth 100000 in
theorem lw_ask (h0 : LEn p s m c D G b L xs BC) (hS : LSt D G s BC dc dm H locs) (hl : lv_has ls 4 (llv b BC i)) (hi : i + 4 ≤ L) (hcl : cells ≤ 600000 ∧ slots ≤ 7302250) (hB : B + 100 < 2 ^ 31) (hR : Rel dc dm B)
    (next : ∀ (dc1 dm1 : Dt) (H1 : Heap) (locs1 : List Loc), Rel dc1 dm1 (B + 99) → LSt D G s BC dc1 dm1 H1 locs1 → W p l e room_1 s m #[Value.ref b] below meth c H1 locs1 cells slots Q (F0 m 1003 ls [])) : W p l e room_1 s m #[Value.ref b] below meth c H locs cells slots Q (F0 m 528 ls []) := by
  obtain ⟨hx, hb, hml, hown, hts, hK, hX, hbl, hBC, hL⟩ := id h0
  obtain ⟨r, dc1, dm1, e1, e2, hR1⟩ := p_ask (by omega) hR (xs (i + 1)) ((((xs (i + 2)).toInt64 <<< ((32 : Int32).toInt64 &&& 63)) ||| ((xs (i + 3)).toInt64 &&& (4294967295 : Int64))))
  refine lv_aload_n hx hb dL_law_528 rfl (lv_at hl 2 rfl) ?_
  refine l_arg (j := 1) h0 hS hl (by omega) (by decide) dL_law_529 dL_law_530 dL_law_531 dL_law_532 dL_law_533 ?_
  refine l_arg (j := 2) h0 hS hl (by omega) (by decide) dL_law_534 dL_law_535 dL_law_536 dL_law_537 dL_law_538 ?_
  refine lv_i2l (v := (xs (i + 2)).toInt64) hx hb dL_law_539 rfl ?_
  refine lv_bipush (v := 32) hx hb dL_law_540 (by decide) ?_
  refine lv_lshl (v := ((xs (i + 2)).toInt64 <<< ((32 : Int32).toInt64 &&& 63))) hx hb dL_law_542 rfl ?_
  refine l_arg (j := 3) h0 hS hl (by omega) (by decide) dL_law_543 dL_law_544 dL_law_545 dL_law_546 dL_law_547 ?_
  refine lv_i2l (v := (xs (i + 3)).toInt64) hx hb dL_law_548 rfl ?_
  refine lv_ldc2 (v := 4294967295) hx hb hown (hts _ wl_5_19) dL_law_549 ?_
  refine lv_land hx hb dL_law_552 ?_
  refine lv_lor hx hb dL_law_553 ?_
  refine lc_C (As := [.int (xs (i + 1)), .long ((((xs (i + 2)).toInt64 <<< ((32 : Int32).toInt64 &&& 63)) ||| ((xs (i + 3)).toInt64 &&& (4294967295 : Int64))))]) (rest := []) h0 hS (kX5_ask (ad := aC BC) (dC_all BC) e1) giL_75 ⟨rfl, rfl⟩ ndL_75 ⟨(Nat.le_of_ble_eq_true rfl), (Nat.le_of_ble_eq_true rfl)⟩ rfl hl.1 rfl (Nat.le_of_ble_eq_true rfl) hcl dL_law_554 (fun H locs hS => ?_)
  refine lv_aload_n hx hb dL_law_557 rfl (lv_at hl 1 rfl) ?_
  refine l_arg (j := 1) h0 hS hl (by omega) (by decide) dL_law_558 dL_law_559 dL_law_560 dL_law_561 dL_law_562 ?_
  refine l_arg (j := 2) h0 hS hl (by omega) (by decide) dL_law_563 dL_law_564 dL_law_565 dL_law_566 dL_law_567 ?_
  refine lv_i2l (v := (xs (i + 2)).toInt64) hx hb dL_law_568 rfl ?_
  refine lv_bipush (v := 32) hx hb dL_law_569 (by decide) ?_
  refine lv_lshl (v := ((xs (i + 2)).toInt64 <<< ((32 : Int32).toInt64 &&& 63))) hx hb dL_law_571 rfl ?_
  refine l_arg (j := 3) h0 hS hl (by omega) (by decide) dL_law_572 dL_law_573 dL_law_574 dL_law_575 dL_law_576 ?_
  refine lv_i2l (v := (xs (i + 3)).toInt64) hx hb dL_law_577 rfl ?_
  refine lv_ldc2 (v := 4294967295) hx hb hown (hts _ wl_5_19) dL_law_578 ?_
  refine lv_land hx hb dL_law_581 ?_
  refine lv_lor hx hb dL_law_582 ?_
  refine lc_M (As := [.int (xs (i + 1)), .long ((((xs (i + 2)).toInt64 <<< ((32 : Int32).toInt64 &&& 63)) ||| ((xs (i + 3)).toInt64 &&& (4294967295 : Int64))))]) (rest := [.int r]) h0 hS (kX6_ask (ad := aM BC) (dM_all BC) e2) giL_79 ⟨rfl, rfl⟩ ndL_79 ⟨(Nat.le_of_ble_eq_true rfl), (Nat.le_of_ble_eq_true rfl)⟩ rfl hl.1 rfl (Nat.le_of_ble_eq_true rfl) hcl dL_law_583 (fun H locs hS => ?_)
  refine lv_icmp_eq (tgt := 1003) hx hb dL_law_586 (by decide) (fun _ => ?_) (fun hne => absurd rfl hne)
  exact next dc1 dm1 H locs (rel_m (by omega) hR1) hS
set_option maxHeartbeats 4000000 in
set_option maxRecDepth 100000 in
theorem lw_drop (h0 : LEn p s m c D G b L xs BC) (hS : LSt D G s BC dc dm H locs) (hl : lv_has ls 4 (llv b BC i)) (hi : i + 4 ≤ L) (hcl : cells ≤ 600000 ∧ slots ≤ 7302250) (hB : B + 100 < 2 ^ 31) (hR : Rel dc dm B)
    (next : ∀ (dc1 dm1 : Dt) (H1 : Heap) (locs1 : List Loc), Rel dc1 dm1 (B + 99) → LSt D G s BC dc1 dm1 H1 locs1 → W p l e room_1 s m #[Value.ref b] below meth c H1 locs1 cells slots Q (F0 m 1003 ls [])) : W p l e room_1 s m #[Value.ref b] below meth c H locs cells slots Q (F0 m 591 ls []) := by
  obtain ⟨hx, hb, hml, hown, hts, hK, hX, hbl, hBC, hL⟩ := id h0
  obtain ⟨r, dc1, dm1, e1, e2, hR1⟩ := p_drop hR 
  refine lv_aload_n hx hb dL_law_591 rfl (lv_at hl 2 rfl) ?_
  refine lc_C (As := []) (rest := []) h0 hS (kX5_drop (ad := aC BC) (dC_all BC) e1) giL_80 ⟨rfl, rfl⟩ ndL_80 ⟨(Nat.le_of_ble_eq_true rfl), (Nat.le_of_ble_eq_true rfl)⟩ rfl hl.1 rfl (Nat.le_of_ble_eq_true rfl) hcl dL_law_592 (fun H locs hS => ?_)
  refine lv_aload_n hx hb dL_law_595 rfl (lv_at hl 1 rfl) ?_
  refine lc_M (As := []) (rest := [.int r]) h0 hS (kX6_drop (ad := aM BC) (dM_all BC) e2) giL_83 ⟨rfl, rfl⟩ ndL_83 ⟨(Nat.le_of_ble_eq_true rfl), (Nat.le_of_ble_eq_true rfl)⟩ rfl hl.1 rfl (Nat.le_of_ble_eq_true rfl) hcl dL_law_596 (fun H locs hS => ?_)
  refine lv_icmp_eq (tgt := 1003) hx hb dL_law_599 (by decide) (fun _ => ?_) (fun hne => absurd rfl hne)
  exact next dc1 dm1 H locs (rel_m (by omega) hR1) hS
set_option maxHeartbeats 4000000 in
set_option maxRecDepth 100000 in
theorem lw_undo (h0 : LEn p s m c D G b L xs BC) (hS : LSt D G s BC dc dm H locs) (hl : lv_has ls 4 (llv b BC i)) (hi : i + 4 ≤ L) (hcl : cells ≤ 600000 ∧ slots ≤ 7302250) (hB : B + 100 < 2 ^ 31) (hR : Rel dc dm B)
    (next : ∀ (dc1 dm1 : Dt) (H1 : Heap) (locs1 : List Loc), Rel dc1 dm1 (B + 99) → LSt D G s BC dc1 dm1 H1 locs1 → W p l e room_1 s m #[Value.ref b] below meth c H1 locs1 cells slots Q (F0 m 1003 ls [])) : W p l e room_1 s m #[Value.ref b] below meth c H locs cells slots Q (F0 m 604 ls []) := by
  obtain ⟨hx, hb, hml, hown, hts, hK, hX, hbl, hBC, hL⟩ := id h0
  obtain ⟨r, dc1, dm1, e1, e2, hR1⟩ := p_undo hR 
  refine lv_aload_n hx hb dL_law_604 rfl (lv_at hl 2 rfl) ?_
  refine lc_C (As := []) (rest := []) h0 hS (kX5_undo (ad := aC BC) (dC_all BC) e1) giL_84 ⟨rfl, rfl⟩ ndL_84 ⟨(Nat.le_of_ble_eq_true rfl), (Nat.le_of_ble_eq_true rfl)⟩ rfl hl.1 rfl (Nat.le_of_ble_eq_true rfl) hcl dL_law_605 (fun H locs hS => ?_)
  refine lv_aload_n hx hb dL_law_608 rfl (lv_at hl 1 rfl) ?_
  refine lc_M (As := []) (rest := [.int r]) h0 hS (kX6_undo (ad := aM BC) (dM_all BC) e2) giL_87 ⟨rfl, rfl⟩ ndL_87 ⟨(Nat.le_of_ble_eq_true rfl), (Nat.le_of_ble_eq_true rfl)⟩ rfl hl.1 rfl (Nat.le_of_ble_eq_true rfl) hcl dL_law_609 (fun H locs hS => ?_)
  refine lv_icmp_eq (tgt := 1003) hx hb dL_law_612 (by decide) (fun _ => ?_) (fun hne => absurd rfl hne)
  exact next dc1 dm1 H locs (rel_m (by omega) hR1) hS
set_option maxHeartbeats 4000000 in
set_option maxRecDepth 100000 in
theorem lw_within (h0 : LEn p s m c D G b L xs BC) (hS : LSt D G s BC dc dm H locs) (hl : lv_has ls 4 (llv b BC i)) (hi : i + 4 ≤ L) (hcl : cells ≤ 600000 ∧ slots ≤ 7302250) (hB : B + 100 < 2 ^ 31) (hR : Rel dc dm B)
    (next : ∀ (dc1 dm1 : Dt) (H1 : Heap) (locs1 : List Loc), Rel dc1 dm1 (B + 99) → LSt D G s BC dc1 dm1 H1 locs1 → W p l e room_1 s m #[Value.ref b] below meth c H1 locs1 cells slots Q (F0 m 1003 ls [])) : W p l e room_1 s m #[Value.ref b] below meth c H locs cells slots Q (F0 m 617 ls []) := by
  obtain ⟨hx, hb, hml, hown, hts, hK, hX, hbl, hBC, hL⟩ := id h0
  obtain ⟨r, dc1, dm1, e1, e2, hR1⟩ := p_within hR (xs (i + 1)) (xs (i + 2))
  refine lv_aload_n hx hb dL_law_617 rfl (lv_at hl 2 rfl) ?_
  refine l_arg (j := 1) h0 hS hl (by omega) (by decide) dL_law_618 dL_law_619 dL_law_620 dL_law_621 dL_law_622 ?_
  refine l_arg (j := 2) h0 hS hl (by omega) (by decide) dL_law_623 dL_law_624 dL_law_625 dL_law_626 dL_law_627 ?_
  refine lc_C (As := [.int (xs (i + 1)), .int (xs (i + 2))]) (rest := []) h0 hS (kX5_within (ad := aC BC) (dC_all BC) e1) giL_88 ⟨rfl, rfl⟩ ndL_88 ⟨(Nat.le_of_ble_eq_true rfl), (Nat.le_of_ble_eq_true rfl)⟩ rfl hl.1 rfl (Nat.le_of_ble_eq_true rfl) hcl dL_law_628 (fun H locs hS => ?_)
  refine lv_aload_n hx hb dL_law_631 rfl (lv_at hl 1 rfl) ?_
  refine l_arg (j := 1) h0 hS hl (by omega) (by decide) dL_law_632 dL_law_633 dL_law_634 dL_law_635 dL_law_636 ?_
  refine l_arg (j := 2) h0 hS hl (by omega) (by decide) dL_law_637 dL_law_638 dL_law_639 dL_law_640 dL_law_641 ?_
  refine lc_M (As := [.int (xs (i + 1)), .int (xs (i + 2))]) (rest := [.int r]) h0 hS (kX6_within (ad := aM BC) (dM_all BC) e2) giL_91 ⟨rfl, rfl⟩ ndL_91 ⟨(Nat.le_of_ble_eq_true rfl), (Nat.le_of_ble_eq_true rfl)⟩ rfl hl.1 rfl (Nat.le_of_ble_eq_true rfl) hcl dL_law_642 (fun H locs hS => ?_)
  refine lv_icmp_eq (tgt := 1003) hx hb dL_law_645 (by decide) (fun _ => ?_) (fun hne => absurd rfl hne)
  exact next dc1 dm1 H locs (rel_m (by omega) hR1) hS
set_option maxHeartbeats 4000000 in
set_option maxRecDepth 100000 in
theorem lw_judge (h0 : LEn p s m c D G b L xs BC) (hS : LSt D G s BC dc dm H locs) (hl : lv_has ls 4 (llv b BC i)) (hi : i + 4 ≤ L) (hcl : cells ≤ 600000 ∧ slots ≤ 7302250) (hB : B + 100 < 2 ^ 31) (hR : Rel dc dm B)
    (next : ∀ (dc1 dm1 : Dt) (H1 : Heap) (locs1 : List Loc), Rel dc1 dm1 (B + 99) → LSt D G s BC dc1 dm1 H1 locs1 → W p l e room_1 s m #[Value.ref b] below meth c H1 locs1 cells slots Q (F0 m 1003 ls [])) : W p l e room_1 s m #[Value.ref b] below meth c H locs cells slots Q (F0 m 650 ls []) := by
  obtain ⟨hx, hb, hml, hown, hts, hK, hX, hbl, hBC, hL⟩ := id h0
  obtain ⟨r, dc1, dm1, e1, e2, hR1⟩ := p_judge (by omega) hR (xs (i + 1)) ((((xs (i + 2)).toInt64 <<< ((32 : Int32).toInt64 &&& 63)) ||| ((xs (i + 3)).toInt64 &&& (4294967295 : Int64))))
  refine lv_aload_n hx hb dL_law_650 rfl (lv_at hl 2 rfl) ?_
  refine l_arg (j := 1) h0 hS hl (by omega) (by decide) dL_law_651 dL_law_652 dL_law_653 dL_law_654 dL_law_655 ?_
  refine l_arg (j := 2) h0 hS hl (by omega) (by decide) dL_law_656 dL_law_657 dL_law_658 dL_law_659 dL_law_660 ?_
  refine lv_i2l (v := (xs (i + 2)).toInt64) hx hb dL_law_661 rfl ?_
  refine lv_bipush (v := 32) hx hb dL_law_662 (by decide) ?_
  refine lv_lshl (v := ((xs (i + 2)).toInt64 <<< ((32 : Int32).toInt64 &&& 63))) hx hb dL_law_664 rfl ?_
  refine l_arg (j := 3) h0 hS hl (by omega) (by decide) dL_law_665 dL_law_666 dL_law_667 dL_law_668 dL_law_669 ?_
  refine lv_i2l (v := (xs (i + 3)).toInt64) hx hb dL_law_670 rfl ?_
  refine lv_ldc2 (v := 4294967295) hx hb hown (hts _ wl_5_19) dL_law_671 ?_
  refine lv_land hx hb dL_law_674 ?_
  refine lv_lor hx hb dL_law_675 ?_
  refine lc_C (As := [.int (xs (i + 1)), .long ((((xs (i + 2)).toInt64 <<< ((32 : Int32).toInt64 &&& 63)) ||| ((xs (i + 3)).toInt64 &&& (4294967295 : Int64))))]) (rest := []) h0 hS (kX5_judge (ad := aC BC) (dC_all BC) e1) giL_92 ⟨rfl, rfl⟩ ndL_92 ⟨(Nat.le_of_ble_eq_true rfl), (Nat.le_of_ble_eq_true rfl)⟩ rfl hl.1 rfl (Nat.le_of_ble_eq_true rfl) hcl dL_law_676 (fun H locs hS => ?_)
  refine lv_aload_n hx hb dL_law_679 rfl (lv_at hl 1 rfl) ?_
  refine l_arg (j := 1) h0 hS hl (by omega) (by decide) dL_law_680 dL_law_681 dL_law_682 dL_law_683 dL_law_684 ?_
  refine l_arg (j := 2) h0 hS hl (by omega) (by decide) dL_law_685 dL_law_686 dL_law_687 dL_law_688 dL_law_689 ?_
  refine lv_i2l (v := (xs (i + 2)).toInt64) hx hb dL_law_690 rfl ?_
  refine lv_bipush (v := 32) hx hb dL_law_691 (by decide) ?_
  refine lv_lshl (v := ((xs (i + 2)).toInt64 <<< ((32 : Int32).toInt64 &&& 63))) hx hb dL_law_693 rfl ?_
  refine l_arg (j := 3) h0 hS hl (by omega) (by decide) dL_law_694 dL_law_695 dL_law_696 dL_law_697 dL_law_698 ?_
  refine lv_i2l (v := (xs (i + 3)).toInt64) hx hb dL_law_699 rfl ?_
  refine lv_ldc2 (v := 4294967295) hx hb hown (hts _ wl_5_19) dL_law_700 ?_
  refine lv_land hx hb dL_law_703 ?_
  refine lv_lor hx hb dL_law_704 ?_
  refine lc_M (As := [.int (xs (i + 1)), .long ((((xs (i + 2)).toInt64 <<< ((32 : Int32).toInt64 &&& 63)) ||| ((xs (i + 3)).toInt64 &&& (4294967295 : Int64))))]) (rest := [.int r]) h0 hS (kX6_judge (ad := aM BC) (dM_all BC) e2) giL_95 ⟨rfl, rfl⟩ ndL_95 ⟨(Nat.le_of_ble_eq_true rfl), (Nat.le_of_ble_eq_true rfl)⟩ rfl hl.1 rfl (Nat.le_of_ble_eq_true rfl) hcl dL_law_705 (fun H locs hS => ?_)
  refine lv_icmp_eq (tgt := 1003) hx hb dL_law_708 (by decide) (fun _ => ?_) (fun hne => absurd rfl hne)
  exact next dc1 dm1 H locs (rel_m (by omega) hR1) hS
end LC
