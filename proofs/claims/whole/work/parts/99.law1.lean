/-! the law: its cases (written by gen/law.py) -/
section LC
variable {nm : String} {b : Nat} {G : Gl} {i : Int32} {bc bs : Nat} {Φ : List Value → Sg → Dt → Prop} {σ : Sg} {d : Dt} {L : Nat} {xs : Nat → Int32} {h p : Nat} {q : Nat → Int32} {bb : Bool}
theorem law_c0 (hs : va_X b L xs G.2.1 G.2.1.heap) (X : IX i L) (I : LI σ d h p q bb) (K : LK nm b G i bc bs Φ) : VL nm b G i bc bs Φ 240 [] σ d := by
  obtain ⟨r, d1, d2, q2, b2, e1, e2, c2⟩ := s_feed I.1 (AA xs i 1) (AA xs i 2) (AA xs i 3) (AA xs i 4) (AA xs i 5)
  refine V_aload_n (pc := 240) 3 dL_law_240 rfl rfl ?_
  refine VL_arg (pc := 241) (n := 1) hs X.1 dL_law_241 dL_law_242 dL_law_244 dL_law_245 dL_law_246 rfl ?_
  refine VL_arg (pc := 247) (n := 2) hs X.2.1 dL_law_247 dL_law_248 dL_law_250 dL_law_251 dL_law_252 rfl ?_
  refine VL_arg (pc := 253) (n := 3) hs X.2.2.1 dL_law_253 dL_law_254 dL_law_256 dL_law_257 dL_law_258 rfl ?_
  refine VL_arg (pc := 259) (n := 4) hs X.2.2.2.1 dL_law_259 dL_law_260 dL_law_262 dL_law_263 dL_law_264 rfl ?_
  refine VL_arg (pc := 265) (n := 5) hs X.2.2.2.2 dL_law_265 dL_law_266 dL_law_268 dL_law_269 dL_law_270 rfl ?_
  refine V_cV5 (pc := 271) dL_law_271 kw391 calX11_feed kw392 kw393 I.2.1.1 rfl (by decide) (Nat.le_of_ble_eq_true rfl) (ctX11_feed I.2.1 e1) ?_
  refine V_aload_n (pc := 274) 2 dL_law_274 rfl rfl ?_
  refine VL_arg (pc := 275) (n := 1) hs X.1 dL_law_275 dL_law_276 dL_law_278 dL_law_279 dL_law_280 rfl ?_
  refine VL_arg (pc := 281) (n := 2) hs X.2.1 dL_law_281 dL_law_282 dL_law_284 dL_law_285 dL_law_286 rfl ?_
  refine VL_arg (pc := 287) (n := 3) hs X.2.2.1 dL_law_287 dL_law_288 dL_law_290 dL_law_291 dL_law_292 rfl ?_
  refine VL_arg (pc := 293) (n := 4) hs X.2.2.2.1 dL_law_293 dL_law_294 dL_law_296 dL_law_297 dL_law_298 rfl ?_
  refine VL_arg (pc := 299) (n := 5) hs X.2.2.2.2 dL_law_299 dL_law_300 dL_law_302 dL_law_303 dL_law_304 rfl ?_
  refine V_cV5 (pc := 305) dL_law_305 kw1353 calX12_feed kw1354 kw1355 (L11_0 I.2.2.1) rfl (by decide) (Nat.le_of_ble_eq_true rfl) (ctX12_feed I.2.2.1 e2) ?_
  exact V_icmp_eq (pc := 308) (tgt := 1753) dL_law_308 (by decide) (fun _ => K _ _ _ _ _ _ ⟨c2, I.2⟩) (fun z => absurd rfl z)
theorem law_c2 (hs : va_X b L xs G.2.1 G.2.1.heap) (X : IX i L) (I : LI σ d h p q bb) (K : LK nm b G i bc bs Φ) : VL nm b G i bc bs Φ 338 [] σ d := by
  obtain ⟨r, d1, d2, q2, b2, e1, e2, c2⟩ := s_fault I.1
  have e1 : some (mX11_fault 0 h p d, d) = some (r, d1) := e1
  cases e1
  have e2 : some (mX12_fault 167 d) = some (mX11_fault 0 h p d, d2) := e2
  have e3 := Option.some.inj e2
  refine V_aload_n (pc := 338) 3 dL_law_338 rfl rfl ?_
  refine V_cV0 (pc := 339) dL_law_339 kw724 calX11_fault kw725 kw726 I.2.1.1 rfl (by decide) (Nat.le_of_ble_eq_true rfl) (ctX11_fault I.2.1) ?_
  refine V_aload_n (pc := 342) 2 dL_law_342 rfl rfl ?_
  refine V_cV0 (pc := 343) dL_law_343 kw1511 calX12_fault kw1512 kw1513 (L11_0 I.2.2.1) rfl (by decide) (Nat.le_of_ble_eq_true rfl) (ctX12_fault I.2.2.1) ?_
  exact V_icmp_eq (pc := 346) (tgt := 1753) dL_law_346 (by decide) (fun _ => K _ _ _ _ _ _ ⟨(by rw [e3]; exact c2), I.2⟩) (fun z => absurd (by rw [e3]) z)
theorem law_c3 (hs : va_X b L xs G.2.1 G.2.1.heap) (X : IX i L) (I : LI σ d h p q bb) (K : LK nm b G i bc bs Φ) : VL nm b G i bc bs Φ 351 [] σ d := by
  obtain ⟨r, d1, d2, q2, b2, e1, e2, c2⟩ := s_where I.1
  have e1 : some (mX11_where 0 h p d, d) = some (r, d1) := e1
  cases e1
  have e2 : some (mX12_where 167 d) = some (mX11_where 0 h p d, d2) := e2
  have e3 := Option.some.inj e2
  refine V_aload_n (pc := 351) 3 dL_law_351 rfl rfl ?_
  refine V_cV0 (pc := 352) dL_law_352 kw728 calX11_where kw729 kw730 I.2.1.1 rfl (by decide) (Nat.le_of_ble_eq_true rfl) (ctX11_where I.2.1) ?_
  refine V_aload_n (pc := 355) 2 dL_law_355 rfl rfl ?_
  refine V_cV0 (pc := 356) dL_law_356 kw1515 calX12_where kw1516 kw1517 (L11_0 I.2.2.1) rfl (by decide) (Nat.le_of_ble_eq_true rfl) (ctX12_where I.2.2.1) ?_
  exact V_icmp_eq (pc := 359) (tgt := 1753) dL_law_359 (by decide) (fun _ => K _ _ _ _ _ _ ⟨(by rw [e3]; exact c2), I.2⟩) (fun z => absurd (by rw [e3]) z)
theorem law_c4 (hs : va_X b L xs G.2.1 G.2.1.heap) (X : IX i L) (I : LI σ d h p q bb) (K : LK nm b G i bc bs Φ) : VL nm b G i bc bs Φ 364 [] σ d := by
  obtain ⟨r, d1, d2, q2, b2, e1, e2, c2⟩ := Ans_StQ I.1 (q_about I.1.1 I.1.2.1 (AA xs i 1))
  have e1 : some (mX11_about 0 h p (AA xs i 1) d) = some (r, d1) := e1
  have e1 := Option.some.inj e1
  have t := ctX11_about (G := G) (d := d) (v1 := AA xs i 1) I.2.1
  rw [e1] at t
  refine V_aload_n (pc := 364) 3 dL_law_364 rfl rfl ?_
  refine VL_arg (pc := 365) (n := 1) hs X.1 dL_law_365 dL_law_366 dL_law_368 dL_law_369 dL_law_370 rfl ?_
  refine V_cV1 (pc := 371) dL_law_371 kw732 calX11_about kw733 kw734 I.2.1.1 rfl (by decide) (Nat.le_of_ble_eq_true rfl) t ?_
  refine V_aload_n (pc := 374) 2 dL_law_374 rfl rfl ?_
  refine VL_arg (pc := 375) (n := 1) hs X.1 dL_law_375 dL_law_376 dL_law_378 dL_law_379 dL_law_380 rfl ?_
  refine V_cV1 (pc := 381) dL_law_381 kw1519 calX12_about kw1520 kw1521 (L11_0 I.2.2.1) rfl (by decide) (Nat.le_of_ble_eq_true rfl) (ctX12_about I.2.2.1 e2) ?_
  exact V_icmp_eq (pc := 384) (tgt := 1753) dL_law_384 (by decide) (fun _ => K _ _ _ _ _ _ ⟨c2, I.2⟩) (fun z => absurd rfl z)
theorem law_c5 (hs : va_X b L xs G.2.1 G.2.1.heap) (X : IX i L) (I : LI σ d h p q bb) (K : LK nm b G i bc bs Φ) : VL nm b G i bc bs Φ 389 [] σ d := by
  obtain ⟨r, d1, d2, q2, b2, e1, e2, c2⟩ := s_named I.1 (((AA xs i 1).toInt64 <<< ((32 : Int32).toInt64 &&& 63)) ||| ((AA xs i 2).toInt64 &&& 4294967295))
  refine V_aload_n (pc := 389) 3 dL_law_389 rfl rfl ?_
  refine VL_arg (pc := 390) (n := 1) hs X.1 dL_law_390 dL_law_391 dL_law_393 dL_law_394 dL_law_395 rfl ?_
  refine V_i2l (pc := 396) dL_law_396 ?_
  refine V_bipush (pc := 397) (x := 32) dL_law_397 (by decide) ?_
  refine V_lshl (pc := 399) dL_law_399 ?_
  refine VL_arg (pc := 400) (n := 2) hs X.2.1 dL_law_400 dL_law_401 dL_law_403 dL_law_404 dL_law_405 rfl ?_
  refine V_i2l (pc := 406) dL_law_406 ?_
  refine V_ldc2 (pc := 407) dL_law_407 kw1891 ?_
  refine V_land (pc := 410) dL_law_410 ?_
  refine V_lor (pc := 411) dL_law_411 ?_
  refine V_cV1 (pc := 412) dL_law_412 kw736 calX11_named kw737 kw738 I.2.1.1 rfl (by decide) (Nat.le_of_ble_eq_true rfl) (ctX11_named I.2.1 e1) ?_
  refine V_aload_n (pc := 415) 2 dL_law_415 rfl rfl ?_
  refine VL_arg (pc := 416) (n := 1) hs X.1 dL_law_416 dL_law_417 dL_law_419 dL_law_420 dL_law_421 rfl ?_
  refine V_i2l (pc := 422) dL_law_422 ?_
  refine V_bipush (pc := 423) (x := 32) dL_law_423 (by decide) ?_
  refine V_lshl (pc := 425) dL_law_425 ?_
  refine VL_arg (pc := 426) (n := 2) hs X.2.1 dL_law_426 dL_law_427 dL_law_429 dL_law_430 dL_law_431 rfl ?_
  refine V_i2l (pc := 432) dL_law_432 ?_
  refine V_ldc2 (pc := 433) dL_law_433 kw1891 ?_
  refine V_land (pc := 436) dL_law_436 ?_
  refine V_lor (pc := 437) dL_law_437 ?_
  refine V_cV1 (pc := 438) dL_law_438 kw1526 calX12_named kw1527 kw1528 (L11_0 I.2.2.1) rfl (by decide) (Nat.le_of_ble_eq_true rfl) (ctX12_named I.2.2.1 e2) ?_
  exact V_icmp_eq (pc := 441) (tgt := 1753) dL_law_441 (by decide) (fun _ => K _ _ _ _ _ _ ⟨c2, I.2⟩) (fun z => absurd rfl z)
theorem law_c6 (hs : va_X b L xs G.2.1 G.2.1.heap) (X : IX i L) (I : LI σ d h p q bb) (K : LK nm b G i bc bs Φ) : VL nm b G i bc bs Φ 446 [] σ d := by
  obtain ⟨r, d1, d2, q2, b2, e1, e2, c2⟩ := Ans_StQ I.1 (q_node I.1.1 I.1.2.1 (AA xs i 1) (AA xs i 2))
  refine V_aload_n (pc := 446) 3 dL_law_446 rfl rfl ?_
  refine VL_arg (pc := 447) (n := 1) hs X.1 dL_law_447 dL_law_448 dL_law_450 dL_law_451 dL_law_452 rfl ?_
  refine VL_arg (pc := 453) (n := 2) hs X.2.1 dL_law_453 dL_law_454 dL_law_456 dL_law_457 dL_law_458 rfl ?_
  refine V_cV2 (pc := 459) dL_law_459 kw741 calX11_node kw742 kw743 I.2.1.1 rfl (by decide) (Nat.le_of_ble_eq_true rfl) (ctX11_node I.2.1 e1) ?_
  refine V_aload_n (pc := 462) 2 dL_law_462 rfl rfl ?_
  refine VL_arg (pc := 463) (n := 1) hs X.1 dL_law_463 dL_law_464 dL_law_466 dL_law_467 dL_law_468 rfl ?_
  refine VL_arg (pc := 469) (n := 2) hs X.2.1 dL_law_469 dL_law_470 dL_law_472 dL_law_473 dL_law_474 rfl ?_
  refine V_cV2 (pc := 475) dL_law_475 kw1530 calX12_node kw1531 kw1532 (L11_0 I.2.2.1) rfl (by decide) (Nat.le_of_ble_eq_true rfl) (ctX12_node I.2.2.1 e2) ?_
  exact V_icmp_eq (pc := 478) (tgt := 1753) dL_law_478 (by decide) (fun _ => K _ _ _ _ _ _ ⟨c2, I.2⟩) (fun z => absurd rfl z)
theorem law_c7 (hs : va_X b L xs G.2.1 G.2.1.heap) (X : IX i L) (I : LI σ d h p q bb) (K : LK nm b G i bc bs Φ) : VL nm b G i bc bs Φ 483 [] σ d := by
  obtain ⟨r, d1, d2, q2, b2, e1, e2, c2⟩ := Ans_StQ I.1 (q_far I.1.1 I.1.2.1 (AA xs i 1) (AA xs i 2))
  refine V_aload_n (pc := 483) 3 dL_law_483 rfl rfl ?_
  refine VL_arg (pc := 484) (n := 1) hs X.1 dL_law_484 dL_law_485 dL_law_487 dL_law_488 dL_law_489 rfl ?_
  refine VL_arg (pc := 490) (n := 2) hs X.2.1 dL_law_490 dL_law_491 dL_law_493 dL_law_494 dL_law_495 rfl ?_
  refine V_cV2 (pc := 496) dL_law_496 kw753 calX11_far kw754 kw755 I.2.1.1 rfl (by decide) (Nat.le_of_ble_eq_true rfl) (ctX11_far I.2.1 e1) ?_
  refine V_aload_n (pc := 499) 2 dL_law_499 rfl rfl ?_
  refine VL_arg (pc := 500) (n := 1) hs X.1 dL_law_500 dL_law_501 dL_law_503 dL_law_504 dL_law_505 rfl ?_
  refine VL_arg (pc := 506) (n := 2) hs X.2.1 dL_law_506 dL_law_507 dL_law_509 dL_law_510 dL_law_511 rfl ?_
  refine V_cV2 (pc := 512) dL_law_512 kw1538 calX12_far kw1539 kw1540 (L11_0 I.2.2.1) rfl (by decide) (Nat.le_of_ble_eq_true rfl) (ctX12_far I.2.2.1 e2) ?_
  exact V_icmp_eq (pc := 515) (tgt := 1753) dL_law_515 (by decide) (fun _ => K _ _ _ _ _ _ ⟨c2, I.2⟩) (fun z => absurd rfl z)
theorem law_c8 (hs : va_X b L xs G.2.1 G.2.1.heap) (X : IX i L) (I : LI σ d h p q bb) (K : LK nm b G i bc bs Φ) : VL nm b G i bc bs Φ 520 [] σ d := by
  obtain ⟨r, d1, d2, q2, b2, e1, e2, c2⟩ := Ans_StQ I.1 (q_way I.1.1 I.1.2.1 (AA xs i 1) (AA xs i 2) (AA xs i 3))
  refine V_aload_n (pc := 520) 3 dL_law_520 rfl rfl ?_
  refine VL_arg (pc := 521) (n := 1) hs X.1 dL_law_521 dL_law_522 dL_law_524 dL_law_525 dL_law_526 rfl ?_
  refine VL_arg (pc := 527) (n := 2) hs X.2.1 dL_law_527 dL_law_528 dL_law_530 dL_law_531 dL_law_532 rfl ?_
  refine VL_arg (pc := 533) (n := 3) hs X.2.2.1 dL_law_533 dL_law_534 dL_law_536 dL_law_537 dL_law_538 rfl ?_
  refine V_cV3 (pc := 539) dL_law_539 kw757 calX11_way kw758 kw759 I.2.1.1 rfl (by decide) (Nat.le_of_ble_eq_true rfl) (ctX11_way I.2.1 e1) ?_
  refine V_aload_n (pc := 542) 2 dL_law_542 rfl rfl ?_
  refine VL_arg (pc := 543) (n := 1) hs X.1 dL_law_543 dL_law_544 dL_law_546 dL_law_547 dL_law_548 rfl ?_
  refine VL_arg (pc := 549) (n := 2) hs X.2.1 dL_law_549 dL_law_550 dL_law_552 dL_law_553 dL_law_554 rfl ?_
  refine VL_arg (pc := 555) (n := 3) hs X.2.2.1 dL_law_555 dL_law_556 dL_law_558 dL_law_559 dL_law_560 rfl ?_
  refine V_cV3 (pc := 561) dL_law_561 kw1554 calX12_way kw1555 kw1556 (L11_0 I.2.2.1) rfl (by decide) (Nat.le_of_ble_eq_true rfl) (ctX12_way I.2.2.1 e2) ?_
  exact V_icmp_eq (pc := 564) (tgt := 1753) dL_law_564 (by decide) (fun _ => K _ _ _ _ _ _ ⟨c2, I.2⟩) (fun z => absurd rfl z)
theorem law_c9 (hs : va_X b L xs G.2.1 G.2.1.heap) (X : IX i L) (I : LI σ d h p q bb) (K : LK nm b G i bc bs Φ) : VL nm b G i bc bs Φ 569 [] σ d := by
  obtain ⟨r, d1, d2, q2, b2, e1, e2, c2⟩ := Ans_StQ I.1 (q_side I.1.1 I.1.2.1 (AA xs i 1))
  refine V_aload_n (pc := 569) 3 dL_law_569 rfl rfl ?_
  refine VL_arg (pc := 570) (n := 1) hs X.1 dL_law_570 dL_law_571 dL_law_573 dL_law_574 dL_law_575 rfl ?_
  refine V_cV1 (pc := 576) dL_law_576 kw773 calX11_side kw774 kw775 I.2.1.1 rfl (by decide) (Nat.le_of_ble_eq_true rfl) (ctX11_side I.2.1 e1) ?_
  refine V_aload_n (pc := 579) 2 dL_law_579 rfl rfl ?_
  refine VL_arg (pc := 580) (n := 1) hs X.1 dL_law_580 dL_law_581 dL_law_583 dL_law_584 dL_law_585 rfl ?_
  refine V_cV1 (pc := 586) dL_law_586 kw1566 calX12_side kw1567 kw1568 (L11_0 I.2.2.1) rfl (by decide) (Nat.le_of_ble_eq_true rfl) (ctX12_side I.2.2.1 e2) ?_
  exact V_icmp_eq (pc := 589) (tgt := 1753) dL_law_589 (by decide) (fun _ => K _ _ _ _ _ _ ⟨c2, I.2⟩) (fun z => absurd rfl z)
theorem law_c10 (hs : va_X b L xs G.2.1 G.2.1.heap) (X : IX i L) (I : LI σ d h p q bb) (K : LK nm b G i bc bs Φ) : VL nm b G i bc bs Φ 594 [] σ d := by
  obtain ⟨r, d1, d2, q2, b2, e1, e2, c2⟩ := Ans_StQ I.1 (q_place I.1.1 I.1.2.1 (AA xs i 1) (AA xs i 2))
  refine V_aload_n (pc := 594) 3 dL_law_594 rfl rfl ?_
  refine VL_arg (pc := 595) (n := 1) hs X.1 dL_law_595 dL_law_596 dL_law_598 dL_law_599 dL_law_600 rfl ?_
  refine VL_arg (pc := 601) (n := 2) hs X.2.1 dL_law_601 dL_law_602 dL_law_604 dL_law_605 dL_law_606 rfl ?_
  refine V_cV2 (pc := 607) dL_law_607 kw781 calX11_place kw782 kw783 I.2.1.1 rfl (by decide) (Nat.le_of_ble_eq_true rfl) (ctX11_place I.2.1 e1) ?_
  refine V_aload_n (pc := 610) 2 dL_law_610 rfl rfl ?_
  refine VL_arg (pc := 611) (n := 1) hs X.1 dL_law_611 dL_law_612 dL_law_614 dL_law_615 dL_law_616 rfl ?_
  refine VL_arg (pc := 617) (n := 2) hs X.2.1 dL_law_617 dL_law_618 dL_law_620 dL_law_621 dL_law_622 rfl ?_
  refine V_cV2 (pc := 623) dL_law_623 kw1574 calX12_place kw1575 kw1576 (L11_0 I.2.2.1) rfl (by decide) (Nat.le_of_ble_eq_true rfl) (ctX12_place I.2.2.1 e2) ?_
  exact V_icmp_eq (pc := 626) (tgt := 1753) dL_law_626 (by decide) (fun _ => K _ _ _ _ _ _ ⟨c2, I.2⟩) (fun z => absurd rfl z)
theorem law_c11 (hs : va_X b L xs G.2.1 G.2.1.heap) (X : IX i L) (I : LI σ d h p q bb) (K : LK nm b G i bc bs Φ) : VL nm b G i bc bs Φ 631 [] σ d := by
  obtain ⟨r, d1, d2, q2, b2, e1, e2, c2⟩ := Ans_StQ I.1 (q_meet I.1.1 I.1.2.1 (AA xs i 1) (AA xs i 2))
  refine V_aload_n (pc := 631) 3 dL_law_631 rfl rfl ?_
  refine VL_arg (pc := 632) (n := 1) hs X.1 dL_law_632 dL_law_633 dL_law_635 dL_law_636 dL_law_637 rfl ?_
  refine VL_arg (pc := 638) (n := 2) hs X.2.1 dL_law_638 dL_law_639 dL_law_641 dL_law_642 dL_law_643 rfl ?_
  refine V_cV2 (pc := 644) dL_law_644 kw790 calX11_meet kw791 kw792 I.2.1.1 rfl (by decide) (Nat.le_of_ble_eq_true rfl) (ctX11_meet I.2.1 e1) ?_
  refine V_aload_n (pc := 647) 2 dL_law_647 rfl rfl ?_
  refine VL_arg (pc := 648) (n := 1) hs X.1 dL_law_648 dL_law_649 dL_law_651 dL_law_652 dL_law_653 rfl ?_
  refine VL_arg (pc := 654) (n := 2) hs X.2.1 dL_law_654 dL_law_655 dL_law_657 dL_law_658 dL_law_659 rfl ?_
  refine V_cV2 (pc := 660) dL_law_660 kw1583 calX12_meet kw1584 kw1585 (L11_0 I.2.2.1) rfl (by decide) (Nat.le_of_ble_eq_true rfl) (ctX12_meet I.2.2.1 e2) ?_
  exact V_icmp_eq (pc := 663) (tgt := 1753) dL_law_663 (by decide) (fun _ => K _ _ _ _ _ _ ⟨c2, I.2⟩) (fun z => absurd rfl z)
theorem law_c12 (hs : va_X b L xs G.2.1 G.2.1.heap) (X : IX i L) (I : LI σ d h p q bb) (K : LK nm b G i bc bs Φ) : VL nm b G i bc bs Φ 668 [] σ d := by
  obtain ⟨r, d1, d2, q2, b2, e1, e2, c2⟩ := Ans_StQ I.1 (q_meetings I.1.1 I.1.2.1)
  refine V_aload_n (pc := 668) 3 dL_law_668 rfl rfl ?_
  refine V_cV0 (pc := 669) dL_law_669 kw809 calX11_meetings kw810 kw811 I.2.1.1 rfl (by decide) (Nat.le_of_ble_eq_true rfl) (ctX11_meetings I.2.1 e1) ?_
  refine V_aload_n (pc := 672) 2 dL_law_672 rfl rfl ?_
  refine V_cV0 (pc := 673) dL_law_673 kw1604 calX12_meetings kw1605 kw1606 (L11_0 I.2.2.1) rfl (by decide) (Nat.le_of_ble_eq_true rfl) (ctX12_meetings I.2.2.1 e2) ?_
  exact V_icmp_eq (pc := 676) (tgt := 1753) dL_law_676 (by decide) (fun _ => K _ _ _ _ _ _ ⟨c2, I.2⟩) (fun z => absurd rfl z)
theorem law_c13 (hs : va_X b L xs G.2.1 G.2.1.heap) (X : IX i L) (I : LI σ d h p q bb) (K : LK nm b G i bc bs Φ) : VL nm b G i bc bs Φ 681 [] σ d := by
  obtain ⟨r, d1, d2, q2, b2, e1, e2, c2⟩ := Ans_StQ I.1 (q_lying I.1.1 I.1.2.1 (AA xs i 1) (AA xs i 2))
  refine V_aload_n (pc := 681) 3 dL_law_681 rfl rfl ?_
  refine VL_arg (pc := 682) (n := 1) hs X.1 dL_law_682 dL_law_683 dL_law_685 dL_law_686 dL_law_687 rfl ?_
  refine VL_arg (pc := 688) (n := 2) hs X.2.1 dL_law_688 dL_law_689 dL_law_691 dL_law_692 dL_law_693 rfl ?_
  refine V_cV2 (pc := 694) dL_law_694 kw818 calX11_lying kw819 kw820 I.2.1.1 rfl (by decide) (Nat.le_of_ble_eq_true rfl) (ctX11_lying I.2.1 e1) ?_
  refine V_aload_n (pc := 697) 2 dL_law_697 rfl rfl ?_
  refine VL_arg (pc := 698) (n := 1) hs X.1 dL_law_698 dL_law_699 dL_law_701 dL_law_702 dL_law_703 rfl ?_
  refine VL_arg (pc := 704) (n := 2) hs X.2.1 dL_law_704 dL_law_705 dL_law_707 dL_law_708 dL_law_709 rfl ?_
  refine V_cV2 (pc := 710) dL_law_710 kw1608 calX12_lying kw1609 kw1610 (L11_0 I.2.2.1) rfl (by decide) (Nat.le_of_ble_eq_true rfl) (ctX12_lying I.2.2.1 e2) ?_
  exact V_icmp_eq (pc := 713) (tgt := 1753) dL_law_713 (by decide) (fun _ => K _ _ _ _ _ _ ⟨c2, I.2⟩) (fun z => absurd rfl z)
theorem law_c14 (hs : va_X b L xs G.2.1 G.2.1.heap) (X : IX i L) (I : LI σ d h p q bb) (K : LK nm b G i bc bs Φ) : VL nm b G i bc bs Φ 718 [] σ d := by
  obtain ⟨r, d1, d2, q2, b2, e1, e2, c2⟩ := Ans_StQ I.1 (q_extent I.1.1 I.1.2.1 (AA xs i 1))
  refine V_aload_n (pc := 718) 3 dL_law_718 rfl rfl ?_
  refine VL_arg (pc := 719) (n := 1) hs X.1 dL_law_719 dL_law_720 dL_law_722 dL_law_723 dL_law_724 rfl ?_
  refine V_cV1 (pc := 725) dL_law_725 kw826 calX11_extent kw827 kw828 I.2.1.1 rfl (by decide) (Nat.le_of_ble_eq_true rfl) (ctX11_extent I.2.1 e1) ?_
  refine V_aload_n (pc := 728) 2 dL_law_728 rfl rfl ?_
  refine VL_arg (pc := 729) (n := 1) hs X.1 dL_law_729 dL_law_730 dL_law_732 dL_law_733 dL_law_734 rfl ?_
  refine V_cV1 (pc := 735) dL_law_735 kw1612 calX12_extent kw1613 kw1614 (L11_0 I.2.2.1) rfl (by decide) (Nat.le_of_ble_eq_true rfl) (ctX12_extent I.2.2.1 e2) ?_
  exact V_icmp_eq (pc := 738) (tgt := 1753) dL_law_738 (by decide) (fun _ => K _ _ _ _ _ _ ⟨c2, I.2⟩) (fun z => absurd rfl z)
theorem law_c15 (hs : va_X b L xs G.2.1 G.2.1.heap) (X : IX i L) (I : LI σ d h p q bb) (K : LK nm b G i bc bs Φ) : VL nm b G i bc bs Φ 743 [] σ d := by
  obtain ⟨r, d1, d2, q2, b2, e1, e2, c2⟩ := Ans_StQ I.1 (q_span I.1.1 I.1.2.1)
  refine V_aload_n (pc := 743) 3 dL_law_743 rfl rfl ?_
  refine V_cV0 (pc := 744) dL_law_744 kw838 calX11_span kw839 kw840 I.2.1.1 rfl (by decide) (Nat.le_of_ble_eq_true rfl) (ctX11_span I.2.1 e1) ?_
  refine V_aload_n (pc := 747) 2 dL_law_747 rfl rfl ?_
  refine V_cV0 (pc := 748) dL_law_748 kw1562 calX12_span kw1563 kw1564 (L11_0 I.2.2.1) rfl (by decide) (Nat.le_of_ble_eq_true rfl) (ctX12_span I.2.2.1 e2) ?_
  exact V_icmp_eq (pc := 751) (tgt := 1753) dL_law_751 (by decide) (fun _ => K _ _ _ _ _ _ ⟨c2, I.2⟩) (fun z => absurd rfl z)
theorem law_c16 (hs : va_X b L xs G.2.1 G.2.1.heap) (X : IX i L) (I : LI σ d h p q bb) (K : LK nm b G i bc bs Φ) : VL nm b G i bc bs Φ 756 [] σ d := by
  obtain ⟨r, d1, d2, q2, b2, e1, e2, c2⟩ := Ans_StQ I.1 (q_plug I.1.1 I.1.2.1 (AA xs i 1) (AA xs i 2))
  refine V_aload_n (pc := 756) 3 dL_law_756 rfl rfl ?_
  refine VL_arg (pc := 757) (n := 1) hs X.1 dL_law_757 dL_law_758 dL_law_760 dL_law_761 dL_law_762 rfl ?_
  refine VL_arg (pc := 763) (n := 2) hs X.2.1 dL_law_763 dL_law_764 dL_law_766 dL_law_767 dL_law_768 rfl ?_
  refine V_cV2 (pc := 769) dL_law_769 kw847 calX11_plug kw848 kw849 I.2.1.1 rfl (by decide) (Nat.le_of_ble_eq_true rfl) (ctX11_plug I.2.1 e1) ?_
  refine V_aload_n (pc := 772) 2 dL_law_772 rfl rfl ?_
  refine VL_arg (pc := 773) (n := 1) hs X.1 dL_law_773 dL_law_774 dL_law_776 dL_law_777 dL_law_778 rfl ?_
  refine VL_arg (pc := 779) (n := 2) hs X.2.1 dL_law_779 dL_law_780 dL_law_782 dL_law_783 dL_law_784 rfl ?_
  refine V_cV2 (pc := 785) dL_law_785 kw1616 calX12_plug kw1617 kw1618 (L11_0 I.2.2.1) rfl (by decide) (Nat.le_of_ble_eq_true rfl) (ctX12_plug I.2.2.1 e2) ?_
  exact V_icmp_eq (pc := 788) (tgt := 1753) dL_law_788 (by decide) (fun _ => K _ _ _ _ _ _ ⟨c2, I.2⟩) (fun z => absurd rfl z)
theorem law_c17 (hs : va_X b L xs G.2.1 G.2.1.heap) (X : IX i L) (I : LI σ d h p q bb) (K : LK nm b G i bc bs Φ) : VL nm b G i bc bs Φ 793 [] σ d := by
  obtain ⟨r, d1, d2, q2, b2, e1, e2, c2⟩ := Ans_StQ I.1 (q_net I.1.1 I.1.2.1 (AA xs i 1) (AA xs i 2))
  refine V_aload_n (pc := 793) 3 dL_law_793 rfl rfl ?_
  refine VL_arg (pc := 794) (n := 1) hs X.1 dL_law_794 dL_law_795 dL_law_797 dL_law_798 dL_law_799 rfl ?_
  refine VL_arg (pc := 800) (n := 2) hs X.2.1 dL_law_800 dL_law_801 dL_law_803 dL_law_804 dL_law_805 rfl ?_
  refine V_cV2 (pc := 806) dL_law_806 kw855 calX11_net kw856 kw857 I.2.1.1 rfl (by decide) (Nat.le_of_ble_eq_true rfl) (ctX11_net I.2.1 e1) ?_
  refine V_aload_n (pc := 809) 2 dL_law_809 rfl rfl ?_
  refine VL_arg (pc := 810) (n := 1) hs X.1 dL_law_810 dL_law_811 dL_law_813 dL_law_814 dL_law_815 rfl ?_
  refine VL_arg (pc := 816) (n := 2) hs X.2.1 dL_law_816 dL_law_817 dL_law_819 dL_law_820 dL_law_821 rfl ?_
  refine V_cV2 (pc := 822) dL_law_822 kw1628 calX12_net kw1629 kw1630 (L11_0 I.2.2.1) rfl (by decide) (Nat.le_of_ble_eq_true rfl) (ctX12_net I.2.2.1 e2) ?_
  exact V_icmp_eq (pc := 825) (tgt := 1753) dL_law_825 (by decide) (fun _ => K _ _ _ _ _ _ ⟨c2, I.2⟩) (fun z => absurd rfl z)
theorem law_c18 (hs : va_X b L xs G.2.1 G.2.1.heap) (X : IX i L) (I : LI σ d h p q bb) (K : LK nm b G i bc bs Φ) : VL nm b G i bc bs Φ 830 [] σ d := by
  obtain ⟨r, d1, d2, q2, b2, e1, e2, c2⟩ := Ans_StQ I.1 (q_pin I.1.1 I.1.2.1 (AA xs i 1) (AA xs i 2) (AA xs i 3))
  refine V_aload_n (pc := 830) 3 dL_law_830 rfl rfl ?_
  refine VL_arg (pc := 831) (n := 1) hs X.1 dL_law_831 dL_law_832 dL_law_834 dL_law_835 dL_law_836 rfl ?_
  refine VL_arg (pc := 837) (n := 2) hs X.2.1 dL_law_837 dL_law_838 dL_law_840 dL_law_841 dL_law_842 rfl ?_
  refine VL_arg (pc := 843) (n := 3) hs X.2.2.1 dL_law_843 dL_law_844 dL_law_846 dL_law_847 dL_law_848 rfl ?_
  refine V_cV3 (pc := 849) dL_law_849 kw863 calX11_pin kw864 kw865 I.2.1.1 rfl (by decide) (Nat.le_of_ble_eq_true rfl) (ctX11_pin I.2.1 e1) ?_
  refine V_aload_n (pc := 852) 2 dL_law_852 rfl rfl ?_
  refine VL_arg (pc := 853) (n := 1) hs X.1 dL_law_853 dL_law_854 dL_law_856 dL_law_857 dL_law_858 rfl ?_
  refine VL_arg (pc := 859) (n := 2) hs X.2.1 dL_law_859 dL_law_860 dL_law_862 dL_law_863 dL_law_864 rfl ?_
  refine VL_arg (pc := 865) (n := 3) hs X.2.2.1 dL_law_865 dL_law_866 dL_law_868 dL_law_869 dL_law_870 rfl ?_
  refine V_cV3 (pc := 871) dL_law_871 kw1640 calX12_pin kw1641 kw1642 (L11_0 I.2.2.1) rfl (by decide) (Nat.le_of_ble_eq_true rfl) (ctX12_pin I.2.2.1 e2) ?_
  exact V_icmp_eq (pc := 874) (tgt := 1753) dL_law_874 (by decide) (fun _ => K _ _ _ _ _ _ ⟨c2, I.2⟩) (fun z => absurd rfl z)
theorem law_c19 (hs : va_X b L xs G.2.1 G.2.1.heap) (X : IX i L) (I : LI σ d h p q bb) (K : LK nm b G i bc bs Φ) : VL nm b G i bc bs Φ 879 [] σ d := by
  obtain ⟨r, d1, d2, q2, b2, e1, e2, c2⟩ := Ans_StQ I.1 (q_plugs I.1.1 I.1.2.1 (AA xs i 1))
  refine V_aload_n (pc := 879) 3 dL_law_879 rfl rfl ?_
  refine VL_arg (pc := 880) (n := 1) hs X.1 dL_law_880 dL_law_881 dL_law_883 dL_law_884 dL_law_885 rfl ?_
  refine V_cV1 (pc := 886) dL_law_886 kw871 calX11_plugs kw872 kw873 I.2.1.1 rfl (by decide) (Nat.le_of_ble_eq_true rfl) (ctX11_plugs I.2.1 e1) ?_
  refine V_aload_n (pc := 889) 2 dL_law_889 rfl rfl ?_
  refine VL_arg (pc := 890) (n := 1) hs X.1 dL_law_890 dL_law_891 dL_law_893 dL_law_894 dL_law_895 rfl ?_
  refine V_cV1 (pc := 896) dL_law_896 kw1648 calX12_plugs kw1649 kw1650 (L11_0 I.2.2.1) rfl (by decide) (Nat.le_of_ble_eq_true rfl) (ctX12_plugs I.2.2.1 e2) ?_
  exact V_icmp_eq (pc := 899) (tgt := 1753) dL_law_899 (by decide) (fun _ => K _ _ _ _ _ _ ⟨c2, I.2⟩) (fun z => absurd rfl z)
theorem law_c20 (hs : va_X b L xs G.2.1 G.2.1.heap) (X : IX i L) (I : LI σ d h p q bb) (K : LK nm b G i bc bs Φ) : VL nm b G i bc bs Φ 904 [] σ d := by
  obtain ⟨r, d1, d2, q2, b2, e1, e2, c2⟩ := Ans_StQ I.1 (q_pins I.1.1 I.1.2.1 (AA xs i 1) (AA xs i 2))
  refine V_aload_n (pc := 904) 3 dL_law_904 rfl rfl ?_
  refine VL_arg (pc := 905) (n := 1) hs X.1 dL_law_905 dL_law_906 dL_law_908 dL_law_909 dL_law_910 rfl ?_
  refine VL_arg (pc := 911) (n := 2) hs X.2.1 dL_law_911 dL_law_912 dL_law_914 dL_law_915 dL_law_916 rfl ?_
  refine V_cV2 (pc := 917) dL_law_917 kw886 calX11_pins kw887 kw888 I.2.1.1 rfl (by decide) (Nat.le_of_ble_eq_true rfl) (ctX11_pins I.2.1 e1) ?_
  refine V_aload_n (pc := 920) 2 dL_law_920 rfl rfl ?_
  refine VL_arg (pc := 921) (n := 1) hs X.1 dL_law_921 dL_law_922 dL_law_924 dL_law_925 dL_law_926 rfl ?_
  refine VL_arg (pc := 927) (n := 2) hs X.2.1 dL_law_927 dL_law_928 dL_law_930 dL_law_931 dL_law_932 rfl ?_
  refine V_cV2 (pc := 933) dL_law_933 kw1663 calX12_pins kw1664 kw1665 (L11_0 I.2.2.1) rfl (by decide) (Nat.le_of_ble_eq_true rfl) (ctX12_pins I.2.2.1 e2) ?_
  exact V_icmp_eq (pc := 936) (tgt := 1753) dL_law_936 (by decide) (fun _ => K _ _ _ _ _ _ ⟨c2, I.2⟩) (fun z => absurd rfl z)
theorem law_c21 (hs : va_X b L xs G.2.1 G.2.1.heap) (X : IX i L) (I : LI σ d h p q bb) (K : LK nm b G i bc bs Φ) : VL nm b G i bc bs Φ 941 [] σ d := by
  obtain ⟨r, d1, d2, q2, b2, e1, e2, c2⟩ := Ans_StQ I.1 (q_splice I.1.1 I.1.2.1 (AA xs i 1) (AA xs i 2))
  refine V_aload_n (pc := 941) 3 dL_law_941 rfl rfl ?_
  refine VL_arg (pc := 942) (n := 1) hs X.1 dL_law_942 dL_law_943 dL_law_945 dL_law_946 dL_law_947 rfl ?_
  refine VL_arg (pc := 948) (n := 2) hs X.2.1 dL_law_948 dL_law_949 dL_law_951 dL_law_952 dL_law_953 rfl ?_
  refine V_cV2 (pc := 954) dL_law_954 kw893 calX11_splice kw894 kw895 I.2.1.1 rfl (by decide) (Nat.le_of_ble_eq_true rfl) (ctX11_splice I.2.1 e1) ?_
  refine V_aload_n (pc := 957) 2 dL_law_957 rfl rfl ?_
  refine VL_arg (pc := 958) (n := 1) hs X.1 dL_law_958 dL_law_959 dL_law_961 dL_law_962 dL_law_963 rfl ?_
  refine VL_arg (pc := 964) (n := 2) hs X.2.1 dL_law_964 dL_law_965 dL_law_967 dL_law_968 dL_law_969 rfl ?_
  refine V_cV2 (pc := 970) dL_law_970 kw1675 calX12_splice kw1676 kw1677 (L11_0 I.2.2.1) rfl (by decide) (Nat.le_of_ble_eq_true rfl) (ctX12_splice I.2.2.1 e2) ?_
  exact V_icmp_eq (pc := 973) (tgt := 1753) dL_law_973 (by decide) (fun _ => K _ _ _ _ _ _ ⟨c2, I.2⟩) (fun z => absurd rfl z)
theorem law_c22 (hs : va_X b L xs G.2.1 G.2.1.heap) (X : IX i L) (I : LI σ d h p q bb) (K : LK nm b G i bc bs Φ) : VL nm b G i bc bs Φ 978 [] σ d := by
  obtain ⟨r, d1, d2, q2, b2, e1, e2, c2⟩ := Ans_StQ I.1 (q_wires I.1.1 I.1.2.1 (AA xs i 1) (AA xs i 2))
  refine V_aload_n (pc := 978) 3 dL_law_978 rfl rfl ?_
  refine VL_arg (pc := 979) (n := 1) hs X.1 dL_law_979 dL_law_980 dL_law_982 dL_law_983 dL_law_984 rfl ?_
  refine VL_arg (pc := 985) (n := 2) hs X.2.1 dL_law_985 dL_law_986 dL_law_988 dL_law_989 dL_law_990 rfl ?_
  refine V_cV2 (pc := 991) dL_law_991 kw917 calX11_wires kw918 kw919 I.2.1.1 rfl (by decide) (Nat.le_of_ble_eq_true rfl) (ctX11_wires I.2.1 e1) ?_
  refine V_aload_n (pc := 994) 2 dL_law_994 rfl rfl ?_
  refine VL_arg (pc := 995) (n := 1) hs X.1 dL_law_995 dL_law_996 dL_law_998 dL_law_999 dL_law_1000 rfl ?_
  refine VL_arg (pc := 1001) (n := 2) hs X.2.1 dL_law_1001 dL_law_1002 dL_law_1004 dL_law_1005 dL_law_1006 rfl ?_
  refine V_cV2 (pc := 1007) dL_law_1007 kw1697 calX12_wires kw1698 kw1699 (L11_0 I.2.2.1) rfl (by decide) (Nat.le_of_ble_eq_true rfl) (ctX12_wires I.2.2.1 e2) ?_
  exact V_icmp_eq (pc := 1010) (tgt := 1753) dL_law_1010 (by decide) (fun _ => K _ _ _ _ _ _ ⟨c2, I.2⟩) (fun z => absurd rfl z)
theorem law_c23 (hs : va_X b L xs G.2.1 G.2.1.heap) (X : IX i L) (I : LI σ d h p q bb) (K : LK nm b G i bc bs Φ) : VL nm b G i bc bs Φ 1015 [] σ d := by
  obtain ⟨r, d1, d2, q2, b2, e1, e2, c2⟩ := Ans_StQ I.1 (q_wire I.1.1 I.1.2.1 (AA xs i 1) (AA xs i 2) (AA xs i 3))
  refine V_aload_n (pc := 1015) 3 dL_law_1015 rfl rfl ?_
  refine VL_arg (pc := 1016) (n := 1) hs X.1 dL_law_1016 dL_law_1017 dL_law_1019 dL_law_1020 dL_law_1021 rfl ?_
  refine VL_arg (pc := 1022) (n := 2) hs X.2.1 dL_law_1022 dL_law_1023 dL_law_1025 dL_law_1026 dL_law_1027 rfl ?_
  refine VL_arg (pc := 1028) (n := 3) hs X.2.2.1 dL_law_1028 dL_law_1029 dL_law_1031 dL_law_1032 dL_law_1033 rfl ?_
  refine V_cV3 (pc := 1034) dL_law_1034 kw924 calX11_wire kw925 kw926 I.2.1.1 rfl (by decide) (Nat.le_of_ble_eq_true rfl) (ctX11_wire I.2.1 e1) ?_
  refine V_aload_n (pc := 1037) 2 dL_law_1037 rfl rfl ?_
  refine VL_arg (pc := 1038) (n := 1) hs X.1 dL_law_1038 dL_law_1039 dL_law_1041 dL_law_1042 dL_law_1043 rfl ?_
  refine VL_arg (pc := 1044) (n := 2) hs X.2.1 dL_law_1044 dL_law_1045 dL_law_1047 dL_law_1048 dL_law_1049 rfl ?_
  refine VL_arg (pc := 1050) (n := 3) hs X.2.2.1 dL_law_1050 dL_law_1051 dL_law_1053 dL_law_1054 dL_law_1055 rfl ?_
  refine V_cV3 (pc := 1056) dL_law_1056 kw1704 calX12_wire kw1705 kw1706 (L11_0 I.2.2.1) rfl (by decide) (Nat.le_of_ble_eq_true rfl) (ctX12_wire I.2.2.1 e2) ?_
  exact V_icmp_eq (pc := 1059) (tgt := 1753) dL_law_1059 (by decide) (fun _ => K _ _ _ _ _ _ ⟨c2, I.2⟩) (fun z => absurd rfl z)
theorem law_c24 (hs : va_X b L xs G.2.1 G.2.1.heap) (X : IX i L) (I : LI σ d h p q bb) (K : LK nm b G i bc bs Φ) : VL nm b G i bc bs Φ 1064 [] σ d := by
  obtain ⟨r, d1, d2, q2, b2, e1, e2, c2⟩ := Ans_StQ I.1 (q_reach I.1.1 I.1.2.1 (AA xs i 1) (AA xs i 2) (AA xs i 3))
  refine V_aload_n (pc := 1064) 3 dL_law_1064 rfl rfl ?_
  refine VL_arg (pc := 1065) (n := 1) hs X.1 dL_law_1065 dL_law_1066 dL_law_1068 dL_law_1069 dL_law_1070 rfl ?_
  refine VL_arg (pc := 1071) (n := 2) hs X.2.1 dL_law_1071 dL_law_1072 dL_law_1074 dL_law_1075 dL_law_1076 rfl ?_
  refine VL_arg (pc := 1077) (n := 3) hs X.2.2.1 dL_law_1077 dL_law_1078 dL_law_1080 dL_law_1081 dL_law_1082 rfl ?_
  refine V_cV3 (pc := 1083) dL_law_1083 kw934 calX11_reach kw935 kw936 I.2.1.1 rfl (by decide) (Nat.le_of_ble_eq_true rfl) (ctX11_reach I.2.1 e1) ?_
  refine V_aload_n (pc := 1086) 2 dL_law_1086 rfl rfl ?_
  refine VL_arg (pc := 1087) (n := 1) hs X.1 dL_law_1087 dL_law_1088 dL_law_1090 dL_law_1091 dL_law_1092 rfl ?_
  refine VL_arg (pc := 1093) (n := 2) hs X.2.1 dL_law_1093 dL_law_1094 dL_law_1096 dL_law_1097 dL_law_1098 rfl ?_
  refine VL_arg (pc := 1099) (n := 3) hs X.2.2.1 dL_law_1099 dL_law_1100 dL_law_1102 dL_law_1103 dL_law_1104 rfl ?_
  refine V_cV3 (pc := 1105) dL_law_1105 kw1715 calX12_reach kw1716 kw1717 (L11_0 I.2.2.1) rfl (by decide) (Nat.le_of_ble_eq_true rfl) (ctX12_reach I.2.2.1 e2) ?_
  exact V_icmp_eq (pc := 1108) (tgt := 1753) dL_law_1108 (by decide) (fun _ => K _ _ _ _ _ _ ⟨c2, I.2⟩) (fun z => absurd rfl z)
theorem law_c25 (hs : va_X b L xs G.2.1 G.2.1.heap) (X : IX i L) (I : LI σ d h p q bb) (K : LK nm b G i bc bs Φ) : VL nm b G i bc bs Φ 1113 [] σ d := by
  obtain ⟨r, d1, d2, q2, b2, e1, e2, c2⟩ := Ans_StQ I.1 (q_total I.1.1 I.1.2.1 (AA xs i 1) (AA xs i 2))
  refine V_aload_n (pc := 1113) 3 dL_law_1113 rfl rfl ?_
  refine VL_arg (pc := 1114) (n := 1) hs X.1 dL_law_1114 dL_law_1115 dL_law_1117 dL_law_1118 dL_law_1119 rfl ?_
  refine VL_arg (pc := 1120) (n := 2) hs X.2.1 dL_law_1120 dL_law_1121 dL_law_1123 dL_law_1124 dL_law_1125 rfl ?_
  refine V_cV2 (pc := 1126) dL_law_1126 kw939 calX11_total kw940 kw941 I.2.1.1 rfl (by decide) (Nat.le_of_ble_eq_true rfl) (ctX11_total I.2.1 e1) ?_
  refine V_aload_n (pc := 1129) 2 dL_law_1129 rfl rfl ?_
  refine VL_arg (pc := 1130) (n := 1) hs X.1 dL_law_1130 dL_law_1131 dL_law_1133 dL_law_1134 dL_law_1135 rfl ?_
  refine VL_arg (pc := 1136) (n := 2) hs X.2.1 dL_law_1136 dL_law_1137 dL_law_1139 dL_law_1140 dL_law_1141 rfl ?_
  refine V_cV2 (pc := 1142) dL_law_1142 kw1719 calX12_total kw1720 kw1721 (L11_0 I.2.2.1) rfl (by decide) (Nat.le_of_ble_eq_true rfl) (ctX12_total I.2.2.1 e2) ?_
  exact V_icmp_eq (pc := 1145) (tgt := 1753) dL_law_1145 (by decide) (fun _ => K _ _ _ _ _ _ ⟨c2, I.2⟩) (fun z => absurd rfl z)
theorem law_c26 (hs : va_X b L xs G.2.1 G.2.1.heap) (X : IX i L) (I : LI σ d h p q bb) (K : LK nm b G i bc bs Φ) : VL nm b G i bc bs Φ 1150 [] σ d := by
  obtain ⟨r, d1, d2, q2, b2, e1, e2, c2⟩ := Ans_StQ I.1 (q_bundle I.1.1 I.1.2.1 (AA xs i 1) (AA xs i 2) (AA xs i 3))
  refine V_aload_n (pc := 1150) 3 dL_law_1150 rfl rfl ?_
  refine VL_arg (pc := 1151) (n := 1) hs X.1 dL_law_1151 dL_law_1152 dL_law_1154 dL_law_1155 dL_law_1156 rfl ?_
  refine VL_arg (pc := 1157) (n := 2) hs X.2.1 dL_law_1157 dL_law_1158 dL_law_1160 dL_law_1161 dL_law_1162 rfl ?_
  refine VL_arg (pc := 1163) (n := 3) hs X.2.2.1 dL_law_1163 dL_law_1164 dL_law_1166 dL_law_1167 dL_law_1168 rfl ?_
  refine V_cV3 (pc := 1169) dL_law_1169 kw950 calX11_bundle kw951 kw952 I.2.1.1 rfl (by decide) (Nat.le_of_ble_eq_true rfl) (ctX11_bundle I.2.1 e1) ?_
  refine V_aload_n (pc := 1172) 2 dL_law_1172 rfl rfl ?_
  refine VL_arg (pc := 1173) (n := 1) hs X.1 dL_law_1173 dL_law_1174 dL_law_1176 dL_law_1177 dL_law_1178 rfl ?_
  refine VL_arg (pc := 1179) (n := 2) hs X.2.1 dL_law_1179 dL_law_1180 dL_law_1182 dL_law_1183 dL_law_1184 rfl ?_
  refine VL_arg (pc := 1185) (n := 3) hs X.2.2.1 dL_law_1185 dL_law_1186 dL_law_1188 dL_law_1189 dL_law_1190 rfl ?_
  refine V_cV3 (pc := 1191) dL_law_1191 kw1723 calX12_bundle kw1724 kw1725 (L11_0 I.2.2.1) rfl (by decide) (Nat.le_of_ble_eq_true rfl) (ctX12_bundle I.2.2.1 e2) ?_
  exact V_icmp_eq (pc := 1194) (tgt := 1753) dL_law_1194 (by decide) (fun _ => K _ _ _ _ _ _ ⟨c2, I.2⟩) (fun z => absurd rfl z)
theorem law_c27 (hs : va_X b L xs G.2.1 G.2.1.heap) (X : IX i L) (I : LI σ d h p q bb) (K : LK nm b G i bc bs Φ) : VL nm b G i bc bs Φ 1199 [] σ d := by
  obtain ⟨r, d1, d2, q2, b2, e1, e2, c2⟩ := Ans_StQ I.1 (q_thickest I.1.1 I.1.2.1 (AA xs i 1))
  refine V_aload_n (pc := 1199) 3 dL_law_1199 rfl rfl ?_
  refine VL_arg (pc := 1200) (n := 1) hs X.1 dL_law_1200 dL_law_1201 dL_law_1203 dL_law_1204 dL_law_1205 rfl ?_
  refine V_cV1 (pc := 1206) dL_law_1206 kw970 calX11_thickest kw971 kw972 I.2.1.1 rfl (by decide) (Nat.le_of_ble_eq_true rfl) (ctX11_thickest I.2.1 e1) ?_
  refine V_aload_n (pc := 1209) 2 dL_law_1209 rfl rfl ?_
  refine VL_arg (pc := 1210) (n := 1) hs X.1 dL_law_1210 dL_law_1211 dL_law_1213 dL_law_1214 dL_law_1215 rfl ?_
  refine V_cV1 (pc := 1216) dL_law_1216 kw1735 calX12_thickest kw1736 kw1737 (L11_0 I.2.2.1) rfl (by decide) (Nat.le_of_ble_eq_true rfl) (ctX12_thickest I.2.2.1 e2) ?_
  exact V_icmp_eq (pc := 1219) (tgt := 1753) dL_law_1219 (by decide) (fun _ => K _ _ _ _ _ _ ⟨c2, I.2⟩) (fun z => absurd rfl z)
theorem law_c28 (hs : va_X b L xs G.2.1 G.2.1.heap) (X : IX i L) (I : LI σ d h p q bb) (K : LK nm b G i bc bs Φ) : VL nm b G i bc bs Φ 1224 [] σ d := by
  obtain ⟨r, d1, d2, q2, b2, e1, e2, c2⟩ := Ans_StQ I.1 (q_through I.1.1 I.1.2.1 (AA xs i 1) (AA xs i 2))
  refine V_aload_n (pc := 1224) 3 dL_law_1224 rfl rfl ?_
  refine VL_arg (pc := 1225) (n := 1) hs X.1 dL_law_1225 dL_law_1226 dL_law_1228 dL_law_1229 dL_law_1230 rfl ?_
  refine VL_arg (pc := 1231) (n := 2) hs X.2.1 dL_law_1231 dL_law_1232 dL_law_1234 dL_law_1235 dL_law_1236 rfl ?_
  refine V_cV2 (pc := 1237) dL_law_1237 kw978 calX11_through kw979 kw980 I.2.1.1 rfl (by decide) (Nat.le_of_ble_eq_true rfl) (ctX11_through I.2.1 e1) ?_
  refine V_aload_n (pc := 1240) 2 dL_law_1240 rfl rfl ?_
  refine VL_arg (pc := 1241) (n := 1) hs X.1 dL_law_1241 dL_law_1242 dL_law_1244 dL_law_1245 dL_law_1246 rfl ?_
  refine VL_arg (pc := 1247) (n := 2) hs X.2.1 dL_law_1247 dL_law_1248 dL_law_1250 dL_law_1251 dL_law_1252 rfl ?_
  refine V_cV2 (pc := 1253) dL_law_1253 kw1739 calX12_through kw1740 kw1741 (L11_0 I.2.2.1) rfl (by decide) (Nat.le_of_ble_eq_true rfl) (ctX12_through I.2.2.1 e2) ?_
  exact V_icmp_eq (pc := 1256) (tgt := 1753) dL_law_1256 (by decide) (fun _ => K _ _ _ _ _ _ ⟨c2, I.2⟩) (fun z => absurd rfl z)
theorem law_c29 (hs : va_X b L xs G.2.1 G.2.1.heap) (X : IX i L) (I : LI σ d h p q bb) (K : LK nm b G i bc bs Φ) : VL nm b G i bc bs Φ 1261 [] σ d := by
  obtain ⟨r, d1, d2, q2, b2, e1, e2, c2⟩ := Ans_StQ I.1 (q_flaws I.1.1 I.1.2.1 (AA xs i 1))
  refine V_aload_n (pc := 1261) 3 dL_law_1261 rfl rfl ?_
  refine VL_arg (pc := 1262) (n := 1) hs X.1 dL_law_1262 dL_law_1263 dL_law_1265 dL_law_1266 dL_law_1267 rfl ?_
  refine V_cV1 (pc := 1268) dL_law_1268 kw985 calX11_flaws kw986 kw987 I.2.1.1 rfl (by decide) (Nat.le_of_ble_eq_true rfl) (ctX11_flaws I.2.1 e1) ?_
  refine V_aload_n (pc := 1271) 2 dL_law_1271 rfl rfl ?_
  refine VL_arg (pc := 1272) (n := 1) hs X.1 dL_law_1272 dL_law_1273 dL_law_1275 dL_law_1276 dL_law_1277 rfl ?_
  refine V_cV1 (pc := 1278) dL_law_1278 kw1743 calX12_flaws kw1744 kw1745 (L11_0 I.2.2.1) rfl (by decide) (Nat.le_of_ble_eq_true rfl) (ctX12_flaws I.2.2.1 e2) ?_
  exact V_icmp_eq (pc := 1281) (tgt := 1753) dL_law_1281 (by decide) (fun _ => K _ _ _ _ _ _ ⟨c2, I.2⟩) (fun z => absurd rfl z)
theorem law_c30 (hs : va_X b L xs G.2.1 G.2.1.heap) (X : IX i L) (I : LI σ d h p q bb) (K : LK nm b G i bc bs Φ) : VL nm b G i bc bs Φ 1286 [] σ d := by
  obtain ⟨r, d1, d2, q2, b2, e1, e2, c2⟩ := Ans_StQ I.1 (q_flaw I.1.1 I.1.2.1 (AA xs i 1) (AA xs i 2) (AA xs i 3))
  refine V_aload_n (pc := 1286) 3 dL_law_1286 rfl rfl ?_
  refine VL_arg (pc := 1287) (n := 1) hs X.1 dL_law_1287 dL_law_1288 dL_law_1290 dL_law_1291 dL_law_1292 rfl ?_
  refine VL_arg (pc := 1293) (n := 2) hs X.2.1 dL_law_1293 dL_law_1294 dL_law_1296 dL_law_1297 dL_law_1298 rfl ?_
  refine VL_arg (pc := 1299) (n := 3) hs X.2.2.1 dL_law_1299 dL_law_1300 dL_law_1302 dL_law_1303 dL_law_1304 rfl ?_
  refine V_cV3 (pc := 1305) dL_law_1305 kw1013 calX11_flaw kw1014 kw1015 I.2.1.1 rfl (by decide) (Nat.le_of_ble_eq_true rfl) (ctX11_flaw I.2.1 e1) ?_
  refine V_aload_n (pc := 1308) 2 dL_law_1308 rfl rfl ?_
  refine VL_arg (pc := 1309) (n := 1) hs X.1 dL_law_1309 dL_law_1310 dL_law_1312 dL_law_1313 dL_law_1314 rfl ?_
  refine VL_arg (pc := 1315) (n := 2) hs X.2.1 dL_law_1315 dL_law_1316 dL_law_1318 dL_law_1319 dL_law_1320 rfl ?_
  refine VL_arg (pc := 1321) (n := 3) hs X.2.2.1 dL_law_1321 dL_law_1322 dL_law_1324 dL_law_1325 dL_law_1326 rfl ?_
  refine V_cV3 (pc := 1327) dL_law_1327 kw1775 calX12_flaw kw1776 kw1777 (L11_0 I.2.2.1) rfl (by decide) (Nat.le_of_ble_eq_true rfl) (ctX12_flaw I.2.2.1 e2) ?_
  exact V_icmp_eq (pc := 1330) (tgt := 1753) dL_law_1330 (by decide) (fun _ => K _ _ _ _ _ _ ⟨c2, I.2⟩) (fun z => absurd rfl z)
theorem law_c31 (hs : va_X b L xs G.2.1 G.2.1.heap) (X : IX i L) (I : LI σ d h p q bb) (K : LK nm b G i bc bs Φ) : VL nm b G i bc bs Φ 1335 [] σ d := by
  obtain ⟨r, d1, d2, q2, b2, e1, e2, c2⟩ := Ans_StQ I.1 (q_sound I.1.1 I.1.2.1)
  refine V_aload_n (pc := 1335) 3 dL_law_1335 rfl rfl ?_
  refine V_cV0 (pc := 1336) dL_law_1336 kw1021 calX11_sound kw1022 kw1023 I.2.1.1 rfl (by decide) (Nat.le_of_ble_eq_true rfl) (ctX11_sound I.2.1 e1) ?_
  refine V_aload_n (pc := 1339) 2 dL_law_1339 rfl rfl ?_
  refine V_cV0 (pc := 1340) dL_law_1340 kw1779 calX12_sound kw1780 kw1781 (L11_0 I.2.2.1) rfl (by decide) (Nat.le_of_ble_eq_true rfl) (ctX12_sound I.2.2.1 e2) ?_
  exact V_icmp_eq (pc := 1343) (tgt := 1753) dL_law_1343 (by decide) (fun _ => K _ _ _ _ _ _ ⟨c2, I.2⟩) (fun z => absurd rfl z)
theorem law_c32 (hs : va_X b L xs G.2.1 G.2.1.heap) (X : IX i L) (I : LI σ d h p q bb) (K : LK nm b G i bc bs Φ) : VL nm b G i bc bs Φ 1348 [] σ d := by
  obtain ⟨r, d1, d2, q2, b2, e1, e2, c2⟩ := Ans_StQ I.1 (q_flawed I.1.1 I.1.2.1)
  refine V_aload_n (pc := 1348) 3 dL_law_1348 rfl rfl ?_
  refine V_cV0 (pc := 1349) dL_law_1349 kw1025 calX11_flawed kw1026 kw1027 I.2.1.1 rfl (by decide) (Nat.le_of_ble_eq_true rfl) (ctX11_flawed I.2.1 e1) ?_
  refine V_aload_n (pc := 1352) 2 dL_law_1352 rfl rfl ?_
  refine V_cV0 (pc := 1353) dL_law_1353 kw1783 calX12_flawed kw1784 kw1785 (L11_0 I.2.2.1) rfl (by decide) (Nat.le_of_ble_eq_true rfl) (ctX12_flawed I.2.2.1 e2) ?_
  exact V_icmp_eq (pc := 1356) (tgt := 1753) dL_law_1356 (by decide) (fun _ => K _ _ _ _ _ _ ⟨c2, I.2⟩) (fun z => absurd rfl z)
theorem law_c33 (hs : va_X b L xs G.2.1 G.2.1.heap) (X : IX i L) (I : LI σ d h p q bb) (K : LK nm b G i bc bs Φ) : VL nm b G i bc bs Φ 1361 [] σ d := by
  obtain ⟨r, d1, d2, q2, b2, e1, e2, c2⟩ := Ans_StQ I.1 (q_build I.1.1 I.1.2.1 (AA xs i 1) (AA xs i 2))
  refine V_aload_n (pc := 1361) 3 dL_law_1361 rfl rfl ?_
  refine VL_arg (pc := 1362) (n := 1) hs X.1 dL_law_1362 dL_law_1363 dL_law_1365 dL_law_1366 dL_law_1367 rfl ?_
  refine VL_arg (pc := 1368) (n := 2) hs X.2.1 dL_law_1368 dL_law_1369 dL_law_1371 dL_law_1372 dL_law_1373 rfl ?_
  refine V_cV2 (pc := 1374) dL_law_1374 kw1029 calX11_build kw1030 kw1031 I.2.1.1 rfl (by decide) (Nat.le_of_ble_eq_true rfl) (ctX11_build I.2.1 e1) ?_
  refine V_aload_n (pc := 1377) 2 dL_law_1377 rfl rfl ?_
  refine VL_arg (pc := 1378) (n := 1) hs X.1 dL_law_1378 dL_law_1379 dL_law_1381 dL_law_1382 dL_law_1383 rfl ?_
  refine VL_arg (pc := 1384) (n := 2) hs X.2.1 dL_law_1384 dL_law_1385 dL_law_1387 dL_law_1388 dL_law_1389 rfl ?_
  refine V_cV2 (pc := 1390) dL_law_1390 kw1791 calX12_build kw1792 kw1793 (L11_0 I.2.2.1) rfl (by decide) (Nat.le_of_ble_eq_true rfl) (ctX12_build I.2.2.1 e2) ?_
  exact V_icmp_eq (pc := 1393) (tgt := 1753) dL_law_1393 (by decide) (fun _ => K _ _ _ _ _ _ ⟨c2, I.2⟩) (fun z => absurd rfl z)
theorem law_c34 (hs : va_X b L xs G.2.1 G.2.1.heap) (X : IX i L) (I : LI σ d h p q bb) (K : LK nm b G i bc bs Φ) : VL nm b G i bc bs Φ 1398 [] σ d := by
  obtain ⟨r, d1, d2, q2, b2, e1, e2, c2⟩ := Ans_StQ I.1 (q_common I.1.1 I.1.2.1 (AA xs i 1))
  refine V_aload_n (pc := 1398) 3 dL_law_1398 rfl rfl ?_
  refine VL_arg (pc := 1399) (n := 1) hs X.1 dL_law_1399 dL_law_1400 dL_law_1402 dL_law_1403 dL_law_1404 rfl ?_
  refine V_cV1 (pc := 1405) dL_law_1405 kw1037 calX11_common kw1038 kw1039 I.2.1.1 rfl (by decide) (Nat.le_of_ble_eq_true rfl) (ctX11_common I.2.1 e1) ?_
  refine V_aload_n (pc := 1408) 2 dL_law_1408 rfl rfl ?_
  refine VL_arg (pc := 1409) (n := 1) hs X.1 dL_law_1409 dL_law_1410 dL_law_1412 dL_law_1413 dL_law_1414 rfl ?_
  refine V_cV1 (pc := 1415) dL_law_1415 kw1799 calX12_common kw1800 kw1801 (L11_0 I.2.2.1) rfl (by decide) (Nat.le_of_ble_eq_true rfl) (ctX12_common I.2.2.1 e2) ?_
  exact V_icmp_eq (pc := 1418) (tgt := 1753) dL_law_1418 (by decide) (fun _ => K _ _ _ _ _ _ ⟨c2, I.2⟩) (fun z => absurd rfl z)
theorem law_c35 (hs : va_X b L xs G.2.1 G.2.1.heap) (X : IX i L) (I : LI σ d h p q bb) (K : LK nm b G i bc bs Φ) : VL nm b G i bc bs Φ 1423 [] σ d := by
  obtain ⟨r, d1, d2, q2, b2, e1, e2, c2⟩ := Ans_StQ I.1 (q_commonPins I.1.1 I.1.2.1 (AA xs i 1) (AA xs i 2))
  refine V_aload_n (pc := 1423) 3 dL_law_1423 rfl rfl ?_
  refine VL_arg (pc := 1424) (n := 1) hs X.1 dL_law_1424 dL_law_1425 dL_law_1427 dL_law_1428 dL_law_1429 rfl ?_
  refine VL_arg (pc := 1430) (n := 2) hs X.2.1 dL_law_1430 dL_law_1431 dL_law_1433 dL_law_1434 dL_law_1435 rfl ?_
  refine V_cV2 (pc := 1436) dL_law_1436 kw1055 calX11_commonPins kw1056 kw1057 I.2.1.1 rfl (by decide) (Nat.le_of_ble_eq_true rfl) (ctX11_commonPins I.2.1 e1) ?_
  refine V_aload_n (pc := 1439) 2 dL_law_1439 rfl rfl ?_
  refine VL_arg (pc := 1440) (n := 1) hs X.1 dL_law_1440 dL_law_1441 dL_law_1443 dL_law_1444 dL_law_1445 rfl ?_
  refine VL_arg (pc := 1446) (n := 2) hs X.2.1 dL_law_1446 dL_law_1447 dL_law_1449 dL_law_1450 dL_law_1451 rfl ?_
  refine V_cV2 (pc := 1452) dL_law_1452 kw1815 calX12_commonPins kw1816 kw1817 (L11_0 I.2.2.1) rfl (by decide) (Nat.le_of_ble_eq_true rfl) (ctX12_commonPins I.2.2.1 e2) ?_
  exact V_icmp_eq (pc := 1455) (tgt := 1753) dL_law_1455 (by decide) (fun _ => K _ _ _ _ _ _ ⟨c2, I.2⟩) (fun z => absurd rfl z)
theorem law_c36 (hs : va_X b L xs G.2.1 G.2.1.heap) (X : IX i L) (I : LI σ d h p q bb) (K : LK nm b G i bc bs Φ) : VL nm b G i bc bs Φ 1460 [] σ d := by
  obtain ⟨r, d1, d2, q2, b2, e1, e2, c2⟩ := Ans_StQ I.1 (q_given I.1.1 I.1.2.1 (AA xs i 1))
  refine V_aload_n (pc := 1460) 3 dL_law_1460 rfl rfl ?_
  refine VL_arg (pc := 1461) (n := 1) hs X.1 dL_law_1461 dL_law_1462 dL_law_1464 dL_law_1465 dL_law_1466 rfl ?_
  refine V_cV1 (pc := 1467) dL_law_1467 kw1060 calX11_given kw1061 kw1062 I.2.1.1 rfl (by decide) (Nat.le_of_ble_eq_true rfl) (ctX11_given I.2.1 e1) ?_
  refine V_aload_n (pc := 1470) 2 dL_law_1470 rfl rfl ?_
  refine VL_arg (pc := 1471) (n := 1) hs X.1 dL_law_1471 dL_law_1472 dL_law_1474 dL_law_1475 dL_law_1476 rfl ?_
  refine V_cV1 (pc := 1477) dL_law_1477 kw1819 calX12_given kw1820 kw1821 (L11_0 I.2.2.1) rfl (by decide) (Nat.le_of_ble_eq_true rfl) (ctX12_given I.2.2.1 e2) ?_
  exact V_icmp_eq (pc := 1480) (tgt := 1753) dL_law_1480 (by decide) (fun _ => K _ _ _ _ _ _ ⟨c2, I.2⟩) (fun z => absurd rfl z)
theorem law_c37 (hs : va_X b L xs G.2.1 G.2.1.heap) (X : IX i L) (I : LI σ d h p q bb) (K : LK nm b G i bc bs Φ) : VL nm b G i bc bs Φ 1485 [] σ d := by
  obtain ⟨r, d1, d2, q2, b2, e1, e2, c2⟩ := Ans_StQ I.1 (q_families I.1.1 I.1.2.1 (AA xs i 1))
  refine V_aload_n (pc := 1485) 3 dL_law_1485 rfl rfl ?_
  refine VL_arg (pc := 1486) (n := 1) hs X.1 dL_law_1486 dL_law_1487 dL_law_1489 dL_law_1490 dL_law_1491 rfl ?_
  refine V_cV1 (pc := 1492) dL_law_1492 kw1068 calX11_families kw1069 kw1070 I.2.1.1 rfl (by decide) (Nat.le_of_ble_eq_true rfl) (ctX11_families I.2.1 e1) ?_
  refine V_aload_n (pc := 1495) 2 dL_law_1495 rfl rfl ?_
  refine VL_arg (pc := 1496) (n := 1) hs X.1 dL_law_1496 dL_law_1497 dL_law_1499 dL_law_1500 dL_law_1501 rfl ?_
  refine V_cV1 (pc := 1502) dL_law_1502 kw1827 calX12_families kw1828 kw1829 (L11_0 I.2.2.1) rfl (by decide) (Nat.le_of_ble_eq_true rfl) (ctX12_families I.2.2.1 e2) ?_
  exact V_icmp_eq (pc := 1505) (tgt := 1753) dL_law_1505 (by decide) (fun _ => K _ _ _ _ _ _ ⟨c2, I.2⟩) (fun z => absurd rfl z)
theorem law_c38 (hs : va_X b L xs G.2.1 G.2.1.heap) (X : IX i L) (I : LI σ d h p q bb) (K : LK nm b G i bc bs Φ) : VL nm b G i bc bs Φ 1510 [] σ d := by
  obtain ⟨r, d1, d2, q2, b2, e1, e2, c2⟩ := Ans_StQ I.1 (q_groups I.1.1 I.1.2.1 (AA xs i 1))
  refine V_aload_n (pc := 1510) 3 dL_law_1510 rfl rfl ?_
  refine VL_arg (pc := 1511) (n := 1) hs X.1 dL_law_1511 dL_law_1512 dL_law_1514 dL_law_1515 dL_law_1516 rfl ?_
  refine V_cV1 (pc := 1517) dL_law_1517 kw1112 calX11_groups kw1113 kw1114 I.2.1.1 rfl (by decide) (Nat.le_of_ble_eq_true rfl) (ctX11_groups I.2.1 e1) ?_
  refine V_aload_n (pc := 1520) 2 dL_law_1520 rfl rfl ?_
  refine VL_arg (pc := 1521) (n := 1) hs X.1 dL_law_1521 dL_law_1522 dL_law_1524 dL_law_1525 dL_law_1526 rfl ?_
  refine V_cV1 (pc := 1527) dL_law_1527 kw1847 calX12_groups kw1848 kw1849 (L11_0 I.2.2.1) rfl (by decide) (Nat.le_of_ble_eq_true rfl) (ctX12_groups I.2.2.1 e2) ?_
  exact V_icmp_eq (pc := 1530) (tgt := 1753) dL_law_1530 (by decide) (fun _ => K _ _ _ _ _ _ ⟨c2, I.2⟩) (fun z => absurd rfl z)
theorem law_c39 (hs : va_X b L xs G.2.1 G.2.1.heap) (X : IX i L) (I : LI σ d h p q bb) (K : LK nm b G i bc bs Φ) : VL nm b G i bc bs Φ 1535 [] σ d := by
  obtain ⟨r, d1, d2, q2, b2, e1, e2, c2⟩ := Ans_StQ I.1 (q_group I.1.1 I.1.2.1 (AA xs i 1) (AA xs i 2))
  refine V_aload_n (pc := 1535) 3 dL_law_1535 rfl rfl ?_
  refine VL_arg (pc := 1536) (n := 1) hs X.1 dL_law_1536 dL_law_1537 dL_law_1539 dL_law_1540 dL_law_1541 rfl ?_
  refine VL_arg (pc := 1542) (n := 2) hs X.2.1 dL_law_1542 dL_law_1543 dL_law_1545 dL_law_1546 dL_law_1547 rfl ?_
  refine V_cV2 (pc := 1548) dL_law_1548 kw1120 calX11_group kw1121 kw1122 I.2.1.1 rfl (by decide) (Nat.le_of_ble_eq_true rfl) (ctX11_group I.2.1 e1) ?_
  refine V_aload_n (pc := 1551) 2 dL_law_1551 rfl rfl ?_
  refine VL_arg (pc := 1552) (n := 1) hs X.1 dL_law_1552 dL_law_1553 dL_law_1555 dL_law_1556 dL_law_1557 rfl ?_
  refine VL_arg (pc := 1558) (n := 2) hs X.2.1 dL_law_1558 dL_law_1559 dL_law_1561 dL_law_1562 dL_law_1563 rfl ?_
  refine V_cV2 (pc := 1564) dL_law_1564 kw1851 calX12_group kw1852 kw1853 (L11_0 I.2.2.1) rfl (by decide) (Nat.le_of_ble_eq_true rfl) (ctX12_group I.2.2.1 e2) ?_
  exact V_icmp_eq (pc := 1567) (tgt := 1753) dL_law_1567 (by decide) (fun _ => K _ _ _ _ _ _ ⟨c2, I.2⟩) (fun z => absurd rfl z)
theorem law_c40 (hs : va_X b L xs G.2.1 G.2.1.heap) (X : IX i L) (I : LI σ d h p q bb) (K : LK nm b G i bc bs Φ) : VL nm b G i bc bs Φ 1572 [] σ d := by
  obtain ⟨r, d1, d2, q2, b2, e1, e2, c2⟩ := s_splices I.1 (AA xs i 1) (AA xs i 2)
  refine V_aload_n (pc := 1572) 3 dL_law_1572 rfl rfl ?_
  refine VL_arg (pc := 1573) (n := 1) hs X.1 dL_law_1573 dL_law_1574 dL_law_1576 dL_law_1577 dL_law_1578 rfl ?_
  refine VL_arg (pc := 1579) (n := 2) hs X.2.1 dL_law_1579 dL_law_1580 dL_law_1582 dL_law_1583 dL_law_1584 rfl ?_
  refine V_cV2 (pc := 1585) dL_law_1585 kw1124 calX11_splices kw1125 kw1126 I.2.1.1 rfl (by decide) (Nat.le_of_ble_eq_true rfl) (ctX11_splices I.2.1 e1) ?_
  refine V_aload_n (pc := 1588) 2 dL_law_1588 rfl rfl ?_
  refine VL_arg (pc := 1589) (n := 1) hs X.1 dL_law_1589 dL_law_1590 dL_law_1592 dL_law_1593 dL_law_1594 rfl ?_
  refine VL_arg (pc := 1595) (n := 2) hs X.2.1 dL_law_1595 dL_law_1596 dL_law_1598 dL_law_1599 dL_law_1600 rfl ?_
  refine V_cV2 (pc := 1601) dL_law_1601 kw1855 calX12_splices kw1856 kw1857 (L11_0 I.2.2.1) rfl (by decide) (Nat.le_of_ble_eq_true rfl) (ctX12_splices I.2.2.1 e2) ?_
  exact V_icmp_eq (pc := 1604) (tgt := 1753) dL_law_1604 (by decide) (fun _ => K _ _ _ _ _ _ ⟨c2, I.2⟩) (fun z => absurd rfl z)
theorem law_c41 (hs : va_X b L xs G.2.1 G.2.1.heap) (X : IX i L) (I : LI σ d h p q bb) (K : LK nm b G i bc bs Φ) : VL nm b G i bc bs Φ 1609 [] σ d := by
  obtain ⟨r, d1, d2, q2, b2, e1, e2, c2⟩ := s_stretch I.1 (AA xs i 1) (AA xs i 2)
  refine V_aload_n (pc := 1609) 3 dL_law_1609 rfl rfl ?_
  refine VL_arg (pc := 1610) (n := 1) hs X.1 dL_law_1610 dL_law_1611 dL_law_1613 dL_law_1614 dL_law_1615 rfl ?_
  refine VL_arg (pc := 1616) (n := 2) hs X.2.1 dL_law_1616 dL_law_1617 dL_law_1619 dL_law_1620 dL_law_1621 rfl ?_
  refine V_cV2 (pc := 1622) dL_law_1622 kw1136 calX11_stretch kw1137 kw1138 I.2.1.1 rfl (by decide) (Nat.le_of_ble_eq_true rfl) (ctX11_stretch I.2.1 e1) ?_
  refine V_aload_n (pc := 1625) 2 dL_law_1625 rfl rfl ?_
  refine VL_arg (pc := 1626) (n := 1) hs X.1 dL_law_1626 dL_law_1627 dL_law_1629 dL_law_1630 dL_law_1631 rfl ?_
  refine VL_arg (pc := 1632) (n := 2) hs X.2.1 dL_law_1632 dL_law_1633 dL_law_1635 dL_law_1636 dL_law_1637 rfl ?_
  refine V_cV2 (pc := 1638) dL_law_1638 kw1863 calX12_stretch kw1864 kw1865 (L11_0 I.2.2.1) rfl (by decide) (Nat.le_of_ble_eq_true rfl) (ctX12_stretch I.2.2.1 e2) ?_
  exact V_icmp_eq (pc := 1641) (tgt := 1753) dL_law_1641 (by decide) (fun _ => K _ _ _ _ _ _ ⟨c2, I.2⟩) (fun z => absurd rfl z)
theorem law_c42 (hs : va_X b L xs G.2.1 G.2.1.heap) (X : IX i L) (I : LI σ d h p q bb) (K : LK nm b G i bc bs Φ) : VL nm b G i bc bs Φ 1646 [] σ d := by
  obtain ⟨r, d1, d2, q2, b2, e1, e2, c2⟩ := s_undo I.1
  refine V_aload_n (pc := 1646) 3 dL_law_1646 rfl rfl ?_
  refine V_cV0 (pc := 1647) dL_law_1647 kw1145 calX11_undo kw1146 kw1147 I.2.1.1 rfl (by decide) (Nat.le_of_ble_eq_true rfl) (ctX11_undo I.2.1 e1) ?_
  refine V_aload_n (pc := 1650) 2 dL_law_1650 rfl rfl ?_
  refine V_cV0 (pc := 1651) dL_law_1651 kw1867 calX12_undo kw1868 kw1869 (L11_0 I.2.2.1) rfl (by decide) (Nat.le_of_ble_eq_true rfl) (ctX12_undo I.2.2.1 e2) ?_
  exact V_icmp_eq (pc := 1654) (tgt := 1753) dL_law_1654 (by decide) (fun _ => K _ _ _ _ _ _ ⟨c2, I.2⟩) (fun z => absurd rfl z)
theorem law_c44 (hs : va_X b L xs G.2.1 G.2.1.heap) (X : IX i L) (I : LI σ d h p q bb) (K : LK nm b G i bc bs Φ) : VL nm b G i bc bs Φ 1715 [] σ d := by
  obtain ⟨r, d1, d2, q2, b2, e1, e2, c2⟩ := s_size I.1 (AA xs i 1)
  have e1 : ((mX11_size 0 h p (AA xs i 1) d).bind fun r => some (r, d)) = some (r, d1) := e1
  obtain ⟨r0, e0, e1⟩ := Option.bind_eq_some_iff.mp e1
  cases e1
  refine V_aload_n (pc := 1715) 3 dL_law_1715 rfl rfl ?_
  refine VL_arg (pc := 1716) (n := 1) hs X.1 dL_law_1716 dL_law_1717 dL_law_1719 dL_law_1720 dL_law_1721 rfl ?_
  refine V_cV1 (pc := 1722) dL_law_1722 kw1149 calX11_size kw1150 kw1151 I.2.1.1 rfl (by decide) (Nat.le_of_ble_eq_true rfl) (ctX11_size I.2.1 e0) ?_
  refine V_aload_n (pc := 1725) 2 dL_law_1725 rfl rfl ?_
  refine VL_arg (pc := 1726) (n := 1) hs X.1 dL_law_1726 dL_law_1727 dL_law_1729 dL_law_1730 dL_law_1731 rfl ?_
  refine V_cV1 (pc := 1732) dL_law_1732 kw1879 calX12_size kw1880 kw1881 (L11_0 I.2.2.1) rfl (by decide) (Nat.le_of_ble_eq_true rfl) (ctX12_size I.2.2.1 e2) ?_
  exact V_icmp_eq (pc := 1735) (tgt := 1753) dL_law_1735 (by decide) (fun _ => K _ _ _ _ _ _ ⟨c2, I.2⟩) (fun z => absurd rfl z)
theorem law_c45 (hs : va_X b L xs G.2.1 G.2.1.heap) (X : IX i L) (I : LI σ d h p q bb) (K : LK nm b G i bc bs Φ) : VL nm b G i bc bs Φ 1740 [] σ d := by
  obtain ⟨r, d1, d2, q2, b2, e1, e2, c2⟩ := s_trouble I.1
  have e1 : some (mX11_trouble 0 h p d, d) = some (r, d1) := e1
  cases e1
  have e2 : some (mX12_trouble 167 d) = some (mX11_trouble 0 h p d, d2) := e2
  have e3 := Option.some.inj e2
  refine V_aload_n (pc := 1740) 3 dL_law_1740 rfl rfl ?_
  refine V_cV0 (pc := 1741) dL_law_1741 kw1157 calX11_trouble kw1158 kw1159 I.2.1.1 rfl (by decide) (Nat.le_of_ble_eq_true rfl) (ctX11_trouble I.2.1) ?_
  refine V_aload_n (pc := 1744) 2 dL_law_1744 rfl rfl ?_
  refine V_cV0 (pc := 1745) dL_law_1745 kw1887 calX12_trouble kw1888 kw1889 (L11_0 I.2.2.1) rfl (by decide) (Nat.le_of_ble_eq_true rfl) (ctX12_trouble I.2.2.1) ?_
  exact V_icmp_eq (pc := 1748) (tgt := 1753) dL_law_1748 (by decide) (fun _ => K _ _ _ _ _ _ ⟨(by rw [e3]; exact c2), I.2⟩) (fun z => absurd (by rw [e3]) z)
end LC
