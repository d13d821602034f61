/-! THE LAW: its calls, 3 -/
section LAW
variable {l : Launch} {nm : String} {b L i : Nat} {xs : Nat → Int32} {G : Gx} {mem : Mem}
set_option maxRecDepth 100000 in
set_option maxHeartbeats 4000000 in
theorem law_cut (hG : Mn G) (I : Inv mem) (h1 : vp_in (nI i + 1) L) (h2 : vp_in (nI i + 2) L) (h3 : vp_in (nI i + 3) L) (h : ∀ mem' : Mem, Inv mem' → XLw l nm b L xs G mem' 1123 (lvL b i G) []) : XLw l nm b L xs G mem 360 (lvL b i G) [] := by
  refine x_aload_n (pc := 360) dL_law_360 2 rfl rfl ?_
  refine x_aload_n (pc := 361) dL_law_361 3 rfl rfl ?_
  refine x_iload_n (pc := 362) dL_law_362 0 rfl rfl ?_
  refine x_iconst (pc := 363) (v := 1) dL_law_363 (by decide) ?_
  refine x_iadd (pc := 364) dL_law_364 ?_
  refine x_sld (pc := 365) h1 dL_law_365 ?_
  refine x_aload_n (pc := 366) dL_law_366 3 rfl rfl ?_
  refine x_iload_n (pc := 367) dL_law_367 0 rfl rfl ?_
  refine x_iconst (pc := 368) (v := 2) dL_law_368 (by decide) ?_
  refine x_iadd (pc := 369) dL_law_369 ?_
  refine x_sld (pc := 370) h2 dL_law_370 ?_
  refine x_callVI (pc := 371) 0 (op_cut hG I _ _) ok_X6_cut dL_law_371 tb_409 (rm_law nm ⟨⟨rfl, rfl⟩, ⟨Nat.le_of_ble_eq_true rfl, Nat.le_of_ble_eq_true rfl⟩, Nat.le_of_ble_eq_true rfl, Nat.le_of_ble_eq_true rfl⟩) (mK hG (by decide)) (mc_0 hG _) rfl (As := [.int (xs (nI i + 1).toNatClampNeg), .int (xs (nI i + 2).toNatClampNeg)]) rfl rfl (Nat.le_of_ble_eq_true rfl) (fun r m hq => ?_)
  refine x_aload_n (pc := 374) dL_law_374 1 rfl rfl ?_
  refine x_aload_n (pc := 375) dL_law_375 3 rfl rfl ?_
  refine x_iload_n (pc := 376) dL_law_376 0 rfl rfl ?_
  refine x_iconst (pc := 377) (v := 1) dL_law_377 (by decide) ?_
  refine x_iadd (pc := 378) dL_law_378 ?_
  refine x_sld (pc := 379) h1 dL_law_379 ?_
  refine x_aload_n (pc := 380) dL_law_380 3 rfl rfl ?_
  refine x_iload_n (pc := 381) dL_law_381 0 rfl rfl ?_
  refine x_iconst (pc := 382) (v := 2) dL_law_382 (by decide) ?_
  refine x_iadd (pc := 383) dL_law_383 ?_
  refine x_sld (pc := 384) h2 dL_law_384 ?_
  refine x_callVI (pc := 385) 327 hq ok_X7_cut dL_law_385 tb_873 (rm_law nm ⟨⟨rfl, rfl⟩, ⟨Nat.le_of_ble_eq_true rfl, Nat.le_of_ble_eq_true rfl⟩, Nat.le_of_ble_eq_true rfl, Nat.le_of_ble_eq_true rfl⟩) (mK hG (by decide)) (mc_327 hG _) rfl (As := [.int (xs (nI i + 1).toNatClampNeg), .int (xs (nI i + 2).toNatClampNeg)]) rfl rfl (Nat.le_of_ble_eq_true rfl) (fun r' m' hq2 => ?_)
  obtain ⟨rfl, I2⟩ := hq2
  refine x_icmp_eq (pc := 388) (tgt := 1123) dL_law_388 (by decide) (fun _ => h _ I2) (fun z => absurd rfl z)
set_option maxRecDepth 100000 in
set_option maxHeartbeats 4000000 in
theorem law_setEdgeWeight (hG : Mn G) (I : Inv mem) (h1 : vp_in (nI i + 1) L) (h2 : vp_in (nI i + 2) L) (h3 : vp_in (nI i + 3) L) (h : ∀ mem' : Mem, Inv mem' → XLw l nm b L xs G mem' 1123 (lvL b i G) []) : XLw l nm b L xs G mem 393 (lvL b i G) [] := by
  refine x_aload_n (pc := 393) dL_law_393 2 rfl rfl ?_
  refine x_aload_n (pc := 394) dL_law_394 3 rfl rfl ?_
  refine x_iload_n (pc := 395) dL_law_395 0 rfl rfl ?_
  refine x_iconst (pc := 396) (v := 1) dL_law_396 (by decide) ?_
  refine x_iadd (pc := 397) dL_law_397 ?_
  refine x_sld (pc := 398) h1 dL_law_398 ?_
  refine x_aload_n (pc := 399) dL_law_399 3 rfl rfl ?_
  refine x_iload_n (pc := 400) dL_law_400 0 rfl rfl ?_
  refine x_iconst (pc := 401) (v := 2) dL_law_401 (by decide) ?_
  refine x_iadd (pc := 402) dL_law_402 ?_
  refine x_sld (pc := 403) h2 dL_law_403 ?_
  refine x_aload_n (pc := 404) dL_law_404 3 rfl rfl ?_
  refine x_iload_n (pc := 405) dL_law_405 0 rfl rfl ?_
  refine x_iconst (pc := 406) (v := 3) dL_law_406 (by decide) ?_
  refine x_iadd (pc := 407) dL_law_407 ?_
  refine x_sld (pc := 408) h3 dL_law_408 ?_
  refine x_callVI (pc := 409) 0 (op_setEdgeWeight hG I _ _ _) ok_X6_setEdgeWeight dL_law_409 tb_416 (rm_law nm ⟨⟨rfl, rfl⟩, ⟨Nat.le_of_ble_eq_true rfl, Nat.le_of_ble_eq_true rfl⟩, Nat.le_of_ble_eq_true rfl, Nat.le_of_ble_eq_true rfl⟩) (mK hG (by decide)) (mc_0 hG _) rfl (As := [.int (xs (nI i + 1).toNatClampNeg), .int (xs (nI i + 2).toNatClampNeg), .int (xs (nI i + 3).toNatClampNeg)]) rfl rfl (Nat.le_of_ble_eq_true rfl) (fun r m hq => ?_)
  refine x_aload_n (pc := 412) dL_law_412 1 rfl rfl ?_
  refine x_aload_n (pc := 413) dL_law_413 3 rfl rfl ?_
  refine x_iload_n (pc := 414) dL_law_414 0 rfl rfl ?_
  refine x_iconst (pc := 415) (v := 1) dL_law_415 (by decide) ?_
  refine x_iadd (pc := 416) dL_law_416 ?_
  refine x_sld (pc := 417) h1 dL_law_417 ?_
  refine x_aload_n (pc := 418) dL_law_418 3 rfl rfl ?_
  refine x_iload_n (pc := 419) dL_law_419 0 rfl rfl ?_
  refine x_iconst (pc := 420) (v := 2) dL_law_420 (by decide) ?_
  refine x_iadd (pc := 421) dL_law_421 ?_
  refine x_sld (pc := 422) h2 dL_law_422 ?_
  refine x_aload_n (pc := 423) dL_law_423 3 rfl rfl ?_
  refine x_iload_n (pc := 424) dL_law_424 0 rfl rfl ?_
  refine x_iconst (pc := 425) (v := 3) dL_law_425 (by decide) ?_
  refine x_iadd (pc := 426) dL_law_426 ?_
  refine x_sld (pc := 427) h3 dL_law_427 ?_
  refine x_callVI (pc := 428) 327 hq ok_X7_setEdgeWeight dL_law_428 tb_881 (rm_law nm ⟨⟨rfl, rfl⟩, ⟨Nat.le_of_ble_eq_true rfl, Nat.le_of_ble_eq_true rfl⟩, Nat.le_of_ble_eq_true rfl, Nat.le_of_ble_eq_true rfl⟩) (mK hG (by decide)) (mc_327 hG _) rfl (As := [.int (xs (nI i + 1).toNatClampNeg), .int (xs (nI i + 2).toNatClampNeg), .int (xs (nI i + 3).toNatClampNeg)]) rfl rfl (Nat.le_of_ble_eq_true rfl) (fun r' m' hq2 => ?_)
  obtain ⟨rfl, I2⟩ := hq2
  refine x_icmp_eq (pc := 431) (tgt := 1123) dL_law_431 (by decide) (fun _ => h _ I2) (fun z => absurd rfl z)
set_option maxRecDepth 100000 in
set_option maxHeartbeats 4000000 in
theorem law_setVertexWeight (hG : Mn G) (I : Inv mem) (h1 : vp_in (nI i + 1) L) (h2 : vp_in (nI i + 2) L) (h3 : vp_in (nI i + 3) L) (h : ∀ mem' : Mem, Inv mem' → XLw l nm b L xs G mem' 1123 (lvL b i G) []) : XLw l nm b L xs G mem 436 (lvL b i G) [] := by
  refine x_aload_n (pc := 436) dL_law_436 2 rfl rfl ?_
  refine x_aload_n (pc := 437) dL_law_437 3 rfl rfl ?_
  refine x_iload_n (pc := 438) dL_law_438 0 rfl rfl ?_
  refine x_iconst (pc := 439) (v := 1) dL_law_439 (by decide) ?_
  refine x_iadd (pc := 440) dL_law_440 ?_
  refine x_sld (pc := 441) h1 dL_law_441 ?_
  refine x_aload_n (pc := 442) dL_law_442 3 rfl rfl ?_
  refine x_iload_n (pc := 443) dL_law_443 0 rfl rfl ?_
  refine x_iconst (pc := 444) (v := 2) dL_law_444 (by decide) ?_
  refine x_iadd (pc := 445) dL_law_445 ?_
  refine x_sld (pc := 446) h2 dL_law_446 ?_
  refine x_callVI (pc := 447) 0 (op_setVertexWeight hG I _ _) ok_X6_setVertexWeight dL_law_447 tb_420 (rm_law nm ⟨⟨rfl, rfl⟩, ⟨Nat.le_of_ble_eq_true rfl, Nat.le_of_ble_eq_true rfl⟩, Nat.le_of_ble_eq_true rfl, Nat.le_of_ble_eq_true rfl⟩) (mK hG (by decide)) (mc_0 hG _) rfl (As := [.int (xs (nI i + 1).toNatClampNeg), .int (xs (nI i + 2).toNatClampNeg)]) rfl rfl (Nat.le_of_ble_eq_true rfl) (fun r m hq => ?_)
  refine x_aload_n (pc := 450) dL_law_450 1 rfl rfl ?_
  refine x_aload_n (pc := 451) dL_law_451 3 rfl rfl ?_
  refine x_iload_n (pc := 452) dL_law_452 0 rfl rfl ?_
  refine x_iconst (pc := 453) (v := 1) dL_law_453 (by decide) ?_
  refine x_iadd (pc := 454) dL_law_454 ?_
  refine x_sld (pc := 455) h1 dL_law_455 ?_
  refine x_aload_n (pc := 456) dL_law_456 3 rfl rfl ?_
  refine x_iload_n (pc := 457) dL_law_457 0 rfl rfl ?_
  refine x_iconst (pc := 458) (v := 2) dL_law_458 (by decide) ?_
  refine x_iadd (pc := 459) dL_law_459 ?_
  refine x_sld (pc := 460) h2 dL_law_460 ?_
  refine x_callVI (pc := 461) 327 hq ok_X7_setVertexWeight dL_law_461 tb_885 (rm_law nm ⟨⟨rfl, rfl⟩, ⟨Nat.le_of_ble_eq_true rfl, Nat.le_of_ble_eq_true rfl⟩, Nat.le_of_ble_eq_true rfl, Nat.le_of_ble_eq_true rfl⟩) (mK hG (by decide)) (mc_327 hG _) rfl (As := [.int (xs (nI i + 1).toNatClampNeg), .int (xs (nI i + 2).toNatClampNeg)]) rfl rfl (Nat.le_of_ble_eq_true rfl) (fun r' m' hq2 => ?_)
  obtain ⟨rfl, I2⟩ := hq2
  refine x_icmp_eq (pc := 464) (tgt := 1123) dL_law_464 (by decide) (fun _ => h _ I2) (fun z => absurd rfl z)
set_option maxRecDepth 100000 in
set_option maxHeartbeats 4000000 in
theorem law_undo (hG : Mn G) (I : Inv mem) (h1 : vp_in (nI i + 1) L) (h2 : vp_in (nI i + 2) L) (h3 : vp_in (nI i + 3) L) (h : ∀ mem' : Mem, Inv mem' → XLw l nm b L xs G mem' 1123 (lvL b i G) []) : XLw l nm b L xs G mem 469 (lvL b i G) [] := by
  refine x_aload_n (pc := 469) dL_law_469 2 rfl rfl ?_
  refine x_callVI (pc := 470) 0 (op_undo hG I) ok_X6_undo dL_law_470 tb_425 (rm_law nm ⟨⟨rfl, rfl⟩, ⟨Nat.le_of_ble_eq_true rfl, Nat.le_of_ble_eq_true rfl⟩, Nat.le_of_ble_eq_true rfl, Nat.le_of_ble_eq_true rfl⟩) (mK hG (by decide)) (mc_0 hG _) rfl (As := []) rfl rfl (Nat.le_of_ble_eq_true rfl) (fun r m hq => ?_)
  refine x_aload_n (pc := 473) dL_law_473 1 rfl rfl ?_
  refine x_callVI (pc := 474) 327 hq ok_X7_undo dL_law_474 tb_889 (rm_law nm ⟨⟨rfl, rfl⟩, ⟨Nat.le_of_ble_eq_true rfl, Nat.le_of_ble_eq_true rfl⟩, Nat.le_of_ble_eq_true rfl, Nat.le_of_ble_eq_true rfl⟩) (mK hG (by decide)) (mc_327 hG _) rfl (As := []) rfl rfl (Nat.le_of_ble_eq_true rfl) (fun r' m' hq2 => ?_)
  obtain ⟨rfl, I2⟩ := hq2
  refine x_icmp_eq (pc := 477) (tgt := 1123) dL_law_477 (by decide) (fun _ => h _ I2) (fun z => absurd rfl z)
end LAW
