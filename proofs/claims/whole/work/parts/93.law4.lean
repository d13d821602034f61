/-! THE LAW: its calls, 4 -/
section LAW
variable {l : Launch} {nm : String} {b L i : Nat} {xs : Nat → Int32} {G : Gx} {mem : Mem}
set_option maxRecDepth 100000 in
set_option maxHeartbeats 4000000 in
theorem law_distance (hG : Mn G) (I : Inv mem) (h1 : vp_in (nI i + 1) L) (h2 : vp_in (nI i + 2) L) (h3 : vp_in (nI i + 3) L) (h : ∀ mem' : Mem, Inv mem' → XLw l nm b L xs G mem' 1123 (lvL b i G) []) : XLw l nm b L xs G mem 482 (lvL b i G) [] := by
  refine x_aload_n (pc := 482) dL_law_482 2 rfl rfl ?_
  refine x_aload_n (pc := 483) dL_law_483 3 rfl rfl ?_
  refine x_iload_n (pc := 484) dL_law_484 0 rfl rfl ?_
  refine x_iconst (pc := 485) (v := 1) dL_law_485 (by decide) ?_
  refine x_iadd (pc := 486) dL_law_486 ?_
  refine x_sld (pc := 487) h1 dL_law_487 ?_
  refine x_aload_n (pc := 488) dL_law_488 3 rfl rfl ?_
  refine x_iload_n (pc := 489) dL_law_489 0 rfl rfl ?_
  refine x_iconst (pc := 490) (v := 2) dL_law_490 (by decide) ?_
  refine x_iadd (pc := 491) dL_law_491 ?_
  refine x_sld (pc := 492) h2 dL_law_492 ?_
  refine x_callVI (pc := 493) 0 (op_distance hG I _ _) ok_X6_distance dL_law_493 tb_437 (rm_law nm ⟨⟨rfl, rfl⟩, ⟨Nat.le_of_ble_eq_true rfl, Nat.le_of_ble_eq_true rfl⟩, Nat.le_of_ble_eq_true rfl, Nat.le_of_ble_eq_true rfl⟩) (mK hG (by decide)) (mc_0 hG _) rfl (As := [.int (xs (nI i + 1).toNatClampNeg), .int (xs (nI i + 2).toNatClampNeg)]) rfl rfl (Nat.le_of_ble_eq_true rfl) (fun r m hq => ?_)
  refine x_aload_n (pc := 496) dL_law_496 1 rfl rfl ?_
  refine x_aload_n (pc := 497) dL_law_497 3 rfl rfl ?_
  refine x_iload_n (pc := 498) dL_law_498 0 rfl rfl ?_
  refine x_iconst (pc := 499) (v := 1) dL_law_499 (by decide) ?_
  refine x_iadd (pc := 500) dL_law_500 ?_
  refine x_sld (pc := 501) h1 dL_law_501 ?_
  refine x_aload_n (pc := 502) dL_law_502 3 rfl rfl ?_
  refine x_iload_n (pc := 503) dL_law_503 0 rfl rfl ?_
  refine x_iconst (pc := 504) (v := 2) dL_law_504 (by decide) ?_
  refine x_iadd (pc := 505) dL_law_505 ?_
  refine x_sld (pc := 506) h2 dL_law_506 ?_
  refine x_callVI (pc := 507) 327 hq ok_X7_distance dL_law_507 tb_893 (rm_law nm ⟨⟨rfl, rfl⟩, ⟨Nat.le_of_ble_eq_true rfl, Nat.le_of_ble_eq_true rfl⟩, Nat.le_of_ble_eq_true rfl, Nat.le_of_ble_eq_true rfl⟩) (mK hG (by decide)) (mc_327 hG _) rfl (As := [.int (xs (nI i + 1).toNatClampNeg), .int (xs (nI i + 2).toNatClampNeg)]) rfl rfl (Nat.le_of_ble_eq_true rfl) (fun r' m' hq2 => ?_)
  obtain ⟨rfl, I2⟩ := hq2
  refine x_icmp_eq (pc := 510) (tgt := 1123) dL_law_510 (by decide) (fun _ => h _ I2) (fun z => absurd rfl z)
set_option maxRecDepth 100000 in
set_option maxHeartbeats 4000000 in
theorem law_pathVertex (hG : Mn G) (I : Inv mem) (h1 : vp_in (nI i + 1) L) (h2 : vp_in (nI i + 2) L) (h3 : vp_in (nI i + 3) L) (h : ∀ mem' : Mem, Inv mem' → XLw l nm b L xs G mem' 1123 (lvL b i G) []) : XLw l nm b L xs G mem 515 (lvL b i G) [] := by
  refine x_aload_n (pc := 515) dL_law_515 2 rfl rfl ?_
  refine x_aload_n (pc := 516) dL_law_516 3 rfl rfl ?_
  refine x_iload_n (pc := 517) dL_law_517 0 rfl rfl ?_
  refine x_iconst (pc := 518) (v := 1) dL_law_518 (by decide) ?_
  refine x_iadd (pc := 519) dL_law_519 ?_
  refine x_sld (pc := 520) h1 dL_law_520 ?_
  refine x_aload_n (pc := 521) dL_law_521 3 rfl rfl ?_
  refine x_iload_n (pc := 522) dL_law_522 0 rfl rfl ?_
  refine x_iconst (pc := 523) (v := 2) dL_law_523 (by decide) ?_
  refine x_iadd (pc := 524) dL_law_524 ?_
  refine x_sld (pc := 525) h2 dL_law_525 ?_
  refine x_aload_n (pc := 526) dL_law_526 3 rfl rfl ?_
  refine x_iload_n (pc := 527) dL_law_527 0 rfl rfl ?_
  refine x_iconst (pc := 528) (v := 3) dL_law_528 (by decide) ?_
  refine x_iadd (pc := 529) dL_law_529 ?_
  refine x_sld (pc := 530) h3 dL_law_530 ?_
  refine x_callVI (pc := 531) 0 (op_pathVertex hG I _ _ _) ok_X6_pathVertex dL_law_531 tb_442 (rm_law nm ⟨⟨rfl, rfl⟩, ⟨Nat.le_of_ble_eq_true rfl, Nat.le_of_ble_eq_true rfl⟩, Nat.le_of_ble_eq_true rfl, Nat.le_of_ble_eq_true rfl⟩) (mK hG (by decide)) (mc_0 hG _) rfl (As := [.int (xs (nI i + 1).toNatClampNeg), .int (xs (nI i + 2).toNatClampNeg), .int (xs (nI i + 3).toNatClampNeg)]) rfl rfl (Nat.le_of_ble_eq_true rfl) (fun r m hq => ?_)
  refine x_aload_n (pc := 534) dL_law_534 1 rfl rfl ?_
  refine x_aload_n (pc := 535) dL_law_535 3 rfl rfl ?_
  refine x_iload_n (pc := 536) dL_law_536 0 rfl rfl ?_
  refine x_iconst (pc := 537) (v := 1) dL_law_537 (by decide) ?_
  refine x_iadd (pc := 538) dL_law_538 ?_
  refine x_sld (pc := 539) h1 dL_law_539 ?_
  refine x_aload_n (pc := 540) dL_law_540 3 rfl rfl ?_
  refine x_iload_n (pc := 541) dL_law_541 0 rfl rfl ?_
  refine x_iconst (pc := 542) (v := 2) dL_law_542 (by decide) ?_
  refine x_iadd (pc := 543) dL_law_543 ?_
  refine x_sld (pc := 544) h2 dL_law_544 ?_
  refine x_aload_n (pc := 545) dL_law_545 3 rfl rfl ?_
  refine x_iload_n (pc := 546) dL_law_546 0 rfl rfl ?_
  refine x_iconst (pc := 547) (v := 3) dL_law_547 (by decide) ?_
  refine x_iadd (pc := 548) dL_law_548 ?_
  refine x_sld (pc := 549) h3 dL_law_549 ?_
  refine x_callVI (pc := 550) 327 hq ok_X7_pathVertex dL_law_550 tb_897 (rm_law nm ⟨⟨rfl, rfl⟩, ⟨Nat.le_of_ble_eq_true rfl, Nat.le_of_ble_eq_true rfl⟩, Nat.le_of_ble_eq_true rfl, Nat.le_of_ble_eq_true rfl⟩) (mK hG (by decide)) (mc_327 hG _) rfl (As := [.int (xs (nI i + 1).toNatClampNeg), .int (xs (nI i + 2).toNatClampNeg), .int (xs (nI i + 3).toNatClampNeg)]) rfl rfl (Nat.le_of_ble_eq_true rfl) (fun r' m' hq2 => ?_)
  obtain ⟨rfl, I2⟩ := hq2
  refine x_icmp_eq (pc := 553) (tgt := 1123) dL_law_553 (by decide) (fun _ => h _ I2) (fun z => absurd rfl z)
set_option maxRecDepth 100000 in
set_option maxHeartbeats 4000000 in
theorem law_eccentricity (hG : Mn G) (I : Inv mem) (h1 : vp_in (nI i + 1) L) (h2 : vp_in (nI i + 2) L) (h3 : vp_in (nI i + 3) L) (h : ∀ mem' : Mem, Inv mem' → XLw l nm b L xs G mem' 1123 (lvL b i G) []) : XLw l nm b L xs G mem 558 (lvL b i G) [] := by
  refine x_aload_n (pc := 558) dL_law_558 2 rfl rfl ?_
  refine x_aload_n (pc := 559) dL_law_559 3 rfl rfl ?_
  refine x_iload_n (pc := 560) dL_law_560 0 rfl rfl ?_
  refine x_iconst (pc := 561) (v := 1) dL_law_561 (by decide) ?_
  refine x_iadd (pc := 562) dL_law_562 ?_
  refine x_sld (pc := 563) h1 dL_law_563 ?_
  refine x_callVI (pc := 564) 0 (op_eccentricity hG I _) ok_X6_eccentricity dL_law_564 tb_455 (rm_law nm ⟨⟨rfl, rfl⟩, ⟨Nat.le_of_ble_eq_true rfl, Nat.le_of_ble_eq_true rfl⟩, Nat.le_of_ble_eq_true rfl, Nat.le_of_ble_eq_true rfl⟩) (mK hG (by decide)) (mc_0 hG _) rfl (As := [.int (xs (nI i + 1).toNatClampNeg)]) rfl rfl (Nat.le_of_ble_eq_true rfl) (fun r m hq => ?_)
  refine x_aload_n (pc := 567) dL_law_567 1 rfl rfl ?_
  refine x_aload_n (pc := 568) dL_law_568 3 rfl rfl ?_
  refine x_iload_n (pc := 569) dL_law_569 0 rfl rfl ?_
  refine x_iconst (pc := 570) (v := 1) dL_law_570 (by decide) ?_
  refine x_iadd (pc := 571) dL_law_571 ?_
  refine x_sld (pc := 572) h1 dL_law_572 ?_
  refine x_callVI (pc := 573) 327 hq ok_X7_eccentricity dL_law_573 tb_901 (rm_law nm ⟨⟨rfl, rfl⟩, ⟨Nat.le_of_ble_eq_true rfl, Nat.le_of_ble_eq_true rfl⟩, Nat.le_of_ble_eq_true rfl, Nat.le_of_ble_eq_true rfl⟩) (mK hG (by decide)) (mc_327 hG _) rfl (As := [.int (xs (nI i + 1).toNatClampNeg)]) rfl rfl (Nat.le_of_ble_eq_true rfl) (fun r' m' hq2 => ?_)
  obtain ⟨rfl, I2⟩ := hq2
  refine x_icmp_eq (pc := 576) (tgt := 1123) dL_law_576 (by decide) (fun _ => h _ I2) (fun z => absurd rfl z)
set_option maxRecDepth 100000 in
set_option maxHeartbeats 4000000 in
theorem law_diameter (hG : Mn G) (I : Inv mem) (h1 : vp_in (nI i + 1) L) (h2 : vp_in (nI i + 2) L) (h3 : vp_in (nI i + 3) L) (h : ∀ mem' : Mem, Inv mem' → XLw l nm b L xs G mem' 1123 (lvL b i G) []) : XLw l nm b L xs G mem 581 (lvL b i G) [] := by
  refine x_aload_n (pc := 581) dL_law_581 2 rfl rfl ?_
  refine x_aload_n (pc := 582) dL_law_582 3 rfl rfl ?_
  refine x_iload_n (pc := 583) dL_law_583 0 rfl rfl ?_
  refine x_iconst (pc := 584) (v := 1) dL_law_584 (by decide) ?_
  refine x_iadd (pc := 585) dL_law_585 ?_
  refine x_sld (pc := 586) h1 dL_law_586 ?_
  refine x_callVI (pc := 587) 0 (op_diameter hG I _) ok_X6_diameter dL_law_587 tb_467 (rm_law nm ⟨⟨rfl, rfl⟩, ⟨Nat.le_of_ble_eq_true rfl, Nat.le_of_ble_eq_true rfl⟩, Nat.le_of_ble_eq_true rfl, Nat.le_of_ble_eq_true rfl⟩) (mK hG (by decide)) (mc_0 hG _) rfl (As := [.int (xs (nI i + 1).toNatClampNeg)]) rfl rfl (Nat.le_of_ble_eq_true rfl) (fun r m hq => ?_)
  refine x_aload_n (pc := 590) dL_law_590 1 rfl rfl ?_
  refine x_aload_n (pc := 591) dL_law_591 3 rfl rfl ?_
  refine x_iload_n (pc := 592) dL_law_592 0 rfl rfl ?_
  refine x_iconst (pc := 593) (v := 1) dL_law_593 (by decide) ?_
  refine x_iadd (pc := 594) dL_law_594 ?_
  refine x_sld (pc := 595) h1 dL_law_595 ?_
  refine x_callVI (pc := 596) 327 hq ok_X7_diameter dL_law_596 tb_909 (rm_law nm ⟨⟨rfl, rfl⟩, ⟨Nat.le_of_ble_eq_true rfl, Nat.le_of_ble_eq_true rfl⟩, Nat.le_of_ble_eq_true rfl, Nat.le_of_ble_eq_true rfl⟩) (mK hG (by decide)) (mc_327 hG _) rfl (As := [.int (xs (nI i + 1).toNatClampNeg)]) rfl rfl (Nat.le_of_ble_eq_true rfl) (fun r' m' hq2 => ?_)
  obtain ⟨rfl, I2⟩ := hq2
  refine x_icmp_eq (pc := 599) (tgt := 1123) dL_law_599 (by decide) (fun _ => h _ I2) (fun z => absurd rfl z)
end LAW
