/-! THE LAW: its calls, 5 -/
section LAW
variable {l : Launch} {nm : String} {b L i : Nat} {xs : Nat → Int32} {G : Gx} {mem : Mem}
set_option maxRecDepth 100000 in
set_option maxHeartbeats 4000000 in
theorem law_diameterEnd (hG : Mn G) (I : Inv mem) (h1 : vp_in (nI i + 1) L) (h2 : vp_in (nI i + 2) L) (h3 : vp_in (nI i + 3) L) (h : ∀ mem' : Mem, Inv mem' → XLw l nm b L xs G mem' 1123 (lvL b i G) []) : XLw l nm b L xs G mem 604 (lvL b i G) [] := by
  refine x_aload_n (pc := 604) dL_law_604 2 rfl rfl ?_
  refine x_aload_n (pc := 605) dL_law_605 3 rfl rfl ?_
  refine x_iload_n (pc := 606) dL_law_606 0 rfl rfl ?_
  refine x_iconst (pc := 607) (v := 1) dL_law_607 (by decide) ?_
  refine x_iadd (pc := 608) dL_law_608 ?_
  refine x_sld (pc := 609) h1 dL_law_609 ?_
  refine x_aload_n (pc := 610) dL_law_610 3 rfl rfl ?_
  refine x_iload_n (pc := 611) dL_law_611 0 rfl rfl ?_
  refine x_iconst (pc := 612) (v := 2) dL_law_612 (by decide) ?_
  refine x_iadd (pc := 613) dL_law_613 ?_
  refine x_sld (pc := 614) h2 dL_law_614 ?_
  refine x_callVI (pc := 615) 0 (op_diameterEnd hG I _ _) ok_X6_diameterEnd dL_law_615 tb_480 (rm_law nm ⟨⟨rfl, rfl⟩, ⟨Nat.le_of_ble_eq_true rfl, Nat.le_of_ble_eq_true rfl⟩, Nat.le_of_ble_eq_true rfl, Nat.le_of_ble_eq_true rfl⟩) (mK hG (by decide)) (mc_0 hG _) rfl (As := [.int (xs (nI i + 1).toNatClampNeg), .int (xs (nI i + 2).toNatClampNeg)]) rfl rfl (Nat.le_of_ble_eq_true rfl) (fun r m hq => ?_)
  refine x_aload_n (pc := 618) dL_law_618 1 rfl rfl ?_
  refine x_aload_n (pc := 619) dL_law_619 3 rfl rfl ?_
  refine x_iload_n (pc := 620) dL_law_620 0 rfl rfl ?_
  refine x_iconst (pc := 621) (v := 1) dL_law_621 (by decide) ?_
  refine x_iadd (pc := 622) dL_law_622 ?_
  refine x_sld (pc := 623) h1 dL_law_623 ?_
  refine x_aload_n (pc := 624) dL_law_624 3 rfl rfl ?_
  refine x_iload_n (pc := 625) dL_law_625 0 rfl rfl ?_
  refine x_iconst (pc := 626) (v := 2) dL_law_626 (by decide) ?_
  refine x_iadd (pc := 627) dL_law_627 ?_
  refine x_sld (pc := 628) h2 dL_law_628 ?_
  refine x_callVI (pc := 629) 327 hq ok_X7_diameterEnd dL_law_629 tb_917 (rm_law nm ⟨⟨rfl, rfl⟩, ⟨Nat.le_of_ble_eq_true rfl, Nat.le_of_ble_eq_true rfl⟩, Nat.le_of_ble_eq_true rfl, Nat.le_of_ble_eq_true rfl⟩) (mK hG (by decide)) (mc_327 hG _) rfl (As := [.int (xs (nI i + 1).toNatClampNeg), .int (xs (nI i + 2).toNatClampNeg)]) rfl rfl (Nat.le_of_ble_eq_true rfl) (fun r' m' hq2 => ?_)
  obtain ⟨rfl, I2⟩ := hq2
  refine x_icmp_eq (pc := 632) (tgt := 1123) dL_law_632 (by decide) (fun _ => h _ I2) (fun z => absurd rfl z)
set_option maxRecDepth 100000 in
set_option maxHeartbeats 4000000 in
theorem law_centre (hG : Mn G) (I : Inv mem) (h1 : vp_in (nI i + 1) L) (h2 : vp_in (nI i + 2) L) (h3 : vp_in (nI i + 3) L) (h : ∀ mem' : Mem, Inv mem' → XLw l nm b L xs G mem' 1123 (lvL b i G) []) : XLw l nm b L xs G mem 637 (lvL b i G) [] := by
  refine x_aload_n (pc := 637) dL_law_637 2 rfl rfl ?_
  refine x_aload_n (pc := 638) dL_law_638 3 rfl rfl ?_
  refine x_iload_n (pc := 639) dL_law_639 0 rfl rfl ?_
  refine x_iconst (pc := 640) (v := 1) dL_law_640 (by decide) ?_
  refine x_iadd (pc := 641) dL_law_641 ?_
  refine x_sld (pc := 642) h1 dL_law_642 ?_
  refine x_callVI (pc := 643) 0 (op_centre hG I _) ok_X6_centre dL_law_643 tb_486 (rm_law nm ⟨⟨rfl, rfl⟩, ⟨Nat.le_of_ble_eq_true rfl, Nat.le_of_ble_eq_true rfl⟩, Nat.le_of_ble_eq_true rfl, Nat.le_of_ble_eq_true rfl⟩) (mK hG (by decide)) (mc_0 hG _) rfl (As := [.int (xs (nI i + 1).toNatClampNeg)]) rfl rfl (Nat.le_of_ble_eq_true rfl) (fun r m hq => ?_)
  refine x_aload_n (pc := 646) dL_law_646 1 rfl rfl ?_
  refine x_aload_n (pc := 647) dL_law_647 3 rfl rfl ?_
  refine x_iload_n (pc := 648) dL_law_648 0 rfl rfl ?_
  refine x_iconst (pc := 649) (v := 1) dL_law_649 (by decide) ?_
  refine x_iadd (pc := 650) dL_law_650 ?_
  refine x_sld (pc := 651) h1 dL_law_651 ?_
  refine x_callVI (pc := 652) 327 hq ok_X7_centre dL_law_652 tb_921 (rm_law nm ⟨⟨rfl, rfl⟩, ⟨Nat.le_of_ble_eq_true rfl, Nat.le_of_ble_eq_true rfl⟩, Nat.le_of_ble_eq_true rfl, Nat.le_of_ble_eq_true rfl⟩) (mK hG (by decide)) (mc_327 hG _) rfl (As := [.int (xs (nI i + 1).toNatClampNeg)]) rfl rfl (Nat.le_of_ble_eq_true rfl) (fun r' m' hq2 => ?_)
  obtain ⟨rfl, I2⟩ := hq2
  refine x_icmp_eq (pc := 655) (tgt := 1123) dL_law_655 (by decide) (fun _ => h _ I2) (fun z => absurd rfl z)
set_option maxRecDepth 100000 in
set_option maxHeartbeats 4000000 in
theorem law_median (hG : Mn G) (I : Inv mem) (h1 : vp_in (nI i + 1) L) (h2 : vp_in (nI i + 2) L) (h3 : vp_in (nI i + 3) L) (h : ∀ mem' : Mem, Inv mem' → XLw l nm b L xs G mem' 1123 (lvL b i G) []) : XLw l nm b L xs G mem 660 (lvL b i G) [] := by
  refine x_aload_n (pc := 660) dL_law_660 2 rfl rfl ?_
  refine x_aload_n (pc := 661) dL_law_661 3 rfl rfl ?_
  refine x_iload_n (pc := 662) dL_law_662 0 rfl rfl ?_
  refine x_iconst (pc := 663) (v := 1) dL_law_663 (by decide) ?_
  refine x_iadd (pc := 664) dL_law_664 ?_
  refine x_sld (pc := 665) h1 dL_law_665 ?_
  refine x_callVI (pc := 666) 0 (op_median hG I _) ok_X6_median dL_law_666 tb_495 (rm_law nm ⟨⟨rfl, rfl⟩, ⟨Nat.le_of_ble_eq_true rfl, Nat.le_of_ble_eq_true rfl⟩, Nat.le_of_ble_eq_true rfl, Nat.le_of_ble_eq_true rfl⟩) (mK hG (by decide)) (mc_0 hG _) rfl (As := [.int (xs (nI i + 1).toNatClampNeg)]) rfl rfl (Nat.le_of_ble_eq_true rfl) (fun r m hq => ?_)
  refine x_aload_n (pc := 669) dL_law_669 1 rfl rfl ?_
  refine x_aload_n (pc := 670) dL_law_670 3 rfl rfl ?_
  refine x_iload_n (pc := 671) dL_law_671 0 rfl rfl ?_
  refine x_iconst (pc := 672) (v := 1) dL_law_672 (by decide) ?_
  refine x_iadd (pc := 673) dL_law_673 ?_
  refine x_sld (pc := 674) h1 dL_law_674 ?_
  refine x_callVI (pc := 675) 327 hq ok_X7_median dL_law_675 tb_933 (rm_law nm ⟨⟨rfl, rfl⟩, ⟨Nat.le_of_ble_eq_true rfl, Nat.le_of_ble_eq_true rfl⟩, Nat.le_of_ble_eq_true rfl, Nat.le_of_ble_eq_true rfl⟩) (mK hG (by decide)) (mc_327 hG _) rfl (As := [.int (xs (nI i + 1).toNatClampNeg)]) rfl rfl (Nat.le_of_ble_eq_true rfl) (fun r' m' hq2 => ?_)
  obtain ⟨rfl, I2⟩ := hq2
  refine x_icmp_eq (pc := 678) (tgt := 1123) dL_law_678 (by decide) (fun _ => h _ I2) (fun z => absurd rfl z)
set_option maxRecDepth 100000 in
set_option maxHeartbeats 4000000 in
theorem law_cost (hG : Mn G) (I : Inv mem) (h1 : vp_in (nI i + 1) L) (h2 : vp_in (nI i + 2) L) (h3 : vp_in (nI i + 3) L) (h : ∀ mem' : Mem, Inv mem' → XLw l nm b L xs G mem' 1123 (lvL b i G) []) : XLw l nm b L xs G mem 683 (lvL b i G) [] := by
  refine x_aload_n (pc := 683) dL_law_683 2 rfl rfl ?_
  refine x_aload_n (pc := 684) dL_law_684 3 rfl rfl ?_
  refine x_iload_n (pc := 685) dL_law_685 0 rfl rfl ?_
  refine x_iconst (pc := 686) (v := 1) dL_law_686 (by decide) ?_
  refine x_iadd (pc := 687) dL_law_687 ?_
  refine x_sld (pc := 688) h1 dL_law_688 ?_
  refine x_callVI (pc := 689) 0 (op_cost hG I _) ok_X6_cost dL_law_689 tb_508 (rm_law nm ⟨⟨rfl, rfl⟩, ⟨Nat.le_of_ble_eq_true rfl, Nat.le_of_ble_eq_true rfl⟩, Nat.le_of_ble_eq_true rfl, Nat.le_of_ble_eq_true rfl⟩) (mK hG (by decide)) (mc_0 hG _) rfl (As := [.int (xs (nI i + 1).toNatClampNeg)]) rfl rfl (Nat.le_of_ble_eq_true rfl) (fun r m hq => ?_)
  refine x_aload_n (pc := 692) dL_law_692 1 rfl rfl ?_
  refine x_aload_n (pc := 693) dL_law_693 3 rfl rfl ?_
  refine x_iload_n (pc := 694) dL_law_694 0 rfl rfl ?_
  refine x_iconst (pc := 695) (v := 1) dL_law_695 (by decide) ?_
  refine x_iadd (pc := 696) dL_law_696 ?_
  refine x_sld (pc := 697) h1 dL_law_697 ?_
  refine x_callVI (pc := 698) 327 hq ok_X7_cost dL_law_698 tb_937 (rm_law nm ⟨⟨rfl, rfl⟩, ⟨Nat.le_of_ble_eq_true rfl, Nat.le_of_ble_eq_true rfl⟩, Nat.le_of_ble_eq_true rfl, Nat.le_of_ble_eq_true rfl⟩) (mK hG (by decide)) (mc_327 hG _) rfl (As := [.int (xs (nI i + 1).toNatClampNeg)]) rfl rfl (Nat.le_of_ble_eq_true rfl) (fun r' m' hq2 => ?_)
  obtain ⟨rfl, I2⟩ := hq2
  refine x_icmp_eq (pc := 701) (tgt := 1123) dL_law_701 (by decide) (fun _ => h _ I2) (fun z => absurd rfl z)
end LAW
