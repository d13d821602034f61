/-! THE LAW: its calls, 6 -/
section LAW
variable {l : Launch} {nm : String} {b L i : Nat} {xs : Nat → Int32} {G : Gx} {mem : Mem}
set_option maxRecDepth 100000 in
set_option maxHeartbeats 4000000 in
theorem law_meeting (hG : Mn G) (I : Inv mem) (h1 : vp_in (nI i + 1) L) (h2 : vp_in (nI i + 2) L) (h3 : vp_in (nI i + 3) L) (h : ∀ mem' : Mem, Inv mem' → XLw l nm b L xs G mem' 1123 (lvL b i G) []) : XLw l nm b L xs G mem 706 (lvL b i G) [] := by
  refine x_aload_n (pc := 706) dL_law_706 2 rfl rfl ?_
  refine x_aload_n (pc := 707) dL_law_707 3 rfl rfl ?_
  refine x_iload_n (pc := 708) dL_law_708 0 rfl rfl ?_
  refine x_iconst (pc := 709) (v := 1) dL_law_709 (by decide) ?_
  refine x_iadd (pc := 710) dL_law_710 ?_
  refine x_sld (pc := 711) h1 dL_law_711 ?_
  refine x_aload_n (pc := 712) dL_law_712 3 rfl rfl ?_
  refine x_iload_n (pc := 713) dL_law_713 0 rfl rfl ?_
  refine x_iconst (pc := 714) (v := 2) dL_law_714 (by decide) ?_
  refine x_iadd (pc := 715) dL_law_715 ?_
  refine x_sld (pc := 716) h2 dL_law_716 ?_
  refine x_aload_n (pc := 717) dL_law_717 3 rfl rfl ?_
  refine x_iload_n (pc := 718) dL_law_718 0 rfl rfl ?_
  refine x_iconst (pc := 719) (v := 3) dL_law_719 (by decide) ?_
  refine x_iadd (pc := 720) dL_law_720 ?_
  refine x_sld (pc := 721) h3 dL_law_721 ?_
  refine x_callVI (pc := 722) 0 (op_meeting hG I _ _ _) ok_X6_meeting dL_law_722 tb_513 (rm_law nm ⟨⟨rfl, rfl⟩, ⟨Nat.le_of_ble_eq_true rfl, Nat.le_of_ble_eq_true rfl⟩, Nat.le_of_ble_eq_true rfl, Nat.le_of_ble_eq_true rfl⟩) (mK hG (by decide)) (mc_0 hG _) rfl (As := [.int (xs (nI i + 1).toNatClampNeg), .int (xs (nI i + 2).toNatClampNeg), .int (xs (nI i + 3).toNatClampNeg)]) rfl rfl (Nat.le_of_ble_eq_true rfl) (fun r m hq => ?_)
  refine x_aload_n (pc := 725) dL_law_725 1 rfl rfl ?_
  refine x_aload_n (pc := 726) dL_law_726 3 rfl rfl ?_
  refine x_iload_n (pc := 727) dL_law_727 0 rfl rfl ?_
  refine x_iconst (pc := 728) (v := 1) dL_law_728 (by decide) ?_
  refine x_iadd (pc := 729) dL_law_729 ?_
  refine x_sld (pc := 730) h1 dL_law_730 ?_
  refine x_aload_n (pc := 731) dL_law_731 3 rfl rfl ?_
  refine x_iload_n (pc := 732) dL_law_732 0 rfl rfl ?_
  refine x_iconst (pc := 733) (v := 2) dL_law_733 (by decide) ?_
  refine x_iadd (pc := 734) dL_law_734 ?_
  refine x_sld (pc := 735) h2 dL_law_735 ?_
  refine x_aload_n (pc := 736) dL_law_736 3 rfl rfl ?_
  refine x_iload_n (pc := 737) dL_law_737 0 rfl rfl ?_
  refine x_iconst (pc := 738) (v := 3) dL_law_738 (by decide) ?_
  refine x_iadd (pc := 739) dL_law_739 ?_
  refine x_sld (pc := 740) h3 dL_law_740 ?_
  refine x_callVI (pc := 741) 327 hq ok_X7_meeting dL_law_741 tb_941 (rm_law nm ⟨⟨rfl, rfl⟩, ⟨Nat.le_of_ble_eq_true rfl, Nat.le_of_ble_eq_true rfl⟩, Nat.le_of_ble_eq_true rfl, Nat.le_of_ble_eq_true rfl⟩) (mK hG (by decide)) (mc_327 hG _) rfl (As := [.int (xs (nI i + 1).toNatClampNeg), .int (xs (nI i + 2).toNatClampNeg), .int (xs (nI i + 3).toNatClampNeg)]) rfl rfl (Nat.le_of_ble_eq_true rfl) (fun r' m' hq2 => ?_)
  obtain ⟨rfl, I2⟩ := hq2
  refine x_icmp_eq (pc := 744) (tgt := 1123) dL_law_744 (by decide) (fun _ => h _ I2) (fun z => absurd rfl z)
set_option maxRecDepth 100000 in
set_option maxHeartbeats 4000000 in
theorem law_rounds (hG : Mn G) (I : Inv mem) (h1 : vp_in (nI i + 1) L) (h2 : vp_in (nI i + 2) L) (h3 : vp_in (nI i + 3) L) (h : ∀ mem' : Mem, Inv mem' → XLw l nm b L xs G mem' 1123 (lvL b i G) []) : XLw l nm b L xs G mem 749 (lvL b i G) [] := by
  refine x_aload_n (pc := 749) dL_law_749 2 rfl rfl ?_
  refine x_aload_n (pc := 750) dL_law_750 3 rfl rfl ?_
  refine x_iload_n (pc := 751) dL_law_751 0 rfl rfl ?_
  refine x_iconst (pc := 752) (v := 1) dL_law_752 (by decide) ?_
  refine x_iadd (pc := 753) dL_law_753 ?_
  refine x_sld (pc := 754) h1 dL_law_754 ?_
  refine x_callVI (pc := 755) 0 (op_rounds hG I _) ok_X6_rounds dL_law_755 tb_525 (rm_law nm ⟨⟨rfl, rfl⟩, ⟨Nat.le_of_ble_eq_true rfl, Nat.le_of_ble_eq_true rfl⟩, Nat.le_of_ble_eq_true rfl, Nat.le_of_ble_eq_true rfl⟩) (mK hG (by decide)) (mc_0 hG _) rfl (As := [.int (xs (nI i + 1).toNatClampNeg)]) rfl rfl (Nat.le_of_ble_eq_true rfl) (fun r m hq => ?_)
  refine x_aload_n (pc := 758) dL_law_758 1 rfl rfl ?_
  refine x_aload_n (pc := 759) dL_law_759 3 rfl rfl ?_
  refine x_iload_n (pc := 760) dL_law_760 0 rfl rfl ?_
  refine x_iconst (pc := 761) (v := 1) dL_law_761 (by decide) ?_
  refine x_iadd (pc := 762) dL_law_762 ?_
  refine x_sld (pc := 763) h1 dL_law_763 ?_
  refine x_callVI (pc := 764) 327 hq ok_X7_rounds dL_law_764 tb_949 (rm_law nm ⟨⟨rfl, rfl⟩, ⟨Nat.le_of_ble_eq_true rfl, Nat.le_of_ble_eq_true rfl⟩, Nat.le_of_ble_eq_true rfl, Nat.le_of_ble_eq_true rfl⟩) (mK hG (by decide)) (mc_327 hG _) rfl (As := [.int (xs (nI i + 1).toNatClampNeg)]) rfl rfl (Nat.le_of_ble_eq_true rfl) (fun r' m' hq2 => ?_)
  obtain ⟨rfl, I2⟩ := hq2
  refine x_icmp_eq (pc := 767) (tgt := 1123) dL_law_767 (by decide) (fun _ => h _ I2) (fun z => absurd rfl z)
set_option maxRecDepth 100000 in
set_option maxHeartbeats 4000000 in
theorem law_removalRound (hG : Mn G) (I : Inv mem) (h1 : vp_in (nI i + 1) L) (h2 : vp_in (nI i + 2) L) (h3 : vp_in (nI i + 3) L) (h : ∀ mem' : Mem, Inv mem' → XLw l nm b L xs G mem' 1123 (lvL b i G) []) : XLw l nm b L xs G mem 772 (lvL b i G) [] := by
  refine x_aload_n (pc := 772) dL_law_772 2 rfl rfl ?_
  refine x_aload_n (pc := 773) dL_law_773 3 rfl rfl ?_
  refine x_iload_n (pc := 774) dL_law_774 0 rfl rfl ?_
  refine x_iconst (pc := 775) (v := 1) dL_law_775 (by decide) ?_
  refine x_iadd (pc := 776) dL_law_776 ?_
  refine x_sld (pc := 777) h1 dL_law_777 ?_
  refine x_callVI (pc := 778) 0 (op_removalRound hG I _) ok_X6_removalRound dL_law_778 tb_588 (rm_law nm ⟨⟨rfl, rfl⟩, ⟨Nat.le_of_ble_eq_true rfl, Nat.le_of_ble_eq_true rfl⟩, Nat.le_of_ble_eq_true rfl, Nat.le_of_ble_eq_true rfl⟩) (mK hG (by decide)) (mc_0 hG _) rfl (As := [.int (xs (nI i + 1).toNatClampNeg)]) rfl rfl (Nat.le_of_ble_eq_true rfl) (fun r m hq => ?_)
  refine x_aload_n (pc := 781) dL_law_781 1 rfl rfl ?_
  refine x_aload_n (pc := 782) dL_law_782 3 rfl rfl ?_
  refine x_iload_n (pc := 783) dL_law_783 0 rfl rfl ?_
  refine x_iconst (pc := 784) (v := 1) dL_law_784 (by decide) ?_
  refine x_iadd (pc := 785) dL_law_785 ?_
  refine x_sld (pc := 786) h1 dL_law_786 ?_
  refine x_callVI (pc := 787) 327 hq ok_X7_removalRound dL_law_787 tb_981 (rm_law nm ⟨⟨rfl, rfl⟩, ⟨Nat.le_of_ble_eq_true rfl, Nat.le_of_ble_eq_true rfl⟩, Nat.le_of_ble_eq_true rfl, Nat.le_of_ble_eq_true rfl⟩) (mK hG (by decide)) (mc_327 hG _) rfl (As := [.int (xs (nI i + 1).toNatClampNeg)]) rfl rfl (Nat.le_of_ble_eq_true rfl) (fun r' m' hq2 => ?_)
  obtain ⟨rfl, I2⟩ := hq2
  refine x_icmp_eq (pc := 790) (tgt := 1123) dL_law_790 (by decide) (fun _ => h _ I2) (fun z => absurd rfl z)
set_option maxRecDepth 100000 in
set_option maxHeartbeats 4000000 in
theorem law_survivor (hG : Mn G) (I : Inv mem) (h1 : vp_in (nI i + 1) L) (h2 : vp_in (nI i + 2) L) (h3 : vp_in (nI i + 3) L) (h : ∀ mem' : Mem, Inv mem' → XLw l nm b L xs G mem' 1123 (lvL b i G) []) : XLw l nm b L xs G mem 795 (lvL b i G) [] := by
  refine x_aload_n (pc := 795) dL_law_795 2 rfl rfl ?_
  refine x_aload_n (pc := 796) dL_law_796 3 rfl rfl ?_
  refine x_iload_n (pc := 797) dL_law_797 0 rfl rfl ?_
  refine x_iconst (pc := 798) (v := 1) dL_law_798 (by decide) ?_
  refine x_iadd (pc := 799) dL_law_799 ?_
  refine x_sld (pc := 800) h1 dL_law_800 ?_
  refine x_callVI (pc := 801) 0 (op_survivor hG I _) ok_X6_survivor dL_law_801 tb_596 (rm_law nm ⟨⟨rfl, rfl⟩, ⟨Nat.le_of_ble_eq_true rfl, Nat.le_of_ble_eq_true rfl⟩, Nat.le_of_ble_eq_true rfl, Nat.le_of_ble_eq_true rfl⟩) (mK hG (by decide)) (mc_0 hG _) rfl (As := [.int (xs (nI i + 1).toNatClampNeg)]) rfl rfl (Nat.le_of_ble_eq_true rfl) (fun r m hq => ?_)
  refine x_aload_n (pc := 804) dL_law_804 1 rfl rfl ?_
  refine x_aload_n (pc := 805) dL_law_805 3 rfl rfl ?_
  refine x_iload_n (pc := 806) dL_law_806 0 rfl rfl ?_
  refine x_iconst (pc := 807) (v := 1) dL_law_807 (by decide) ?_
  refine x_iadd (pc := 808) dL_law_808 ?_
  refine x_sld (pc := 809) h1 dL_law_809 ?_
  refine x_callVI (pc := 810) 327 hq ok_X7_survivor dL_law_810 tb_985 (rm_law nm ⟨⟨rfl, rfl⟩, ⟨Nat.le_of_ble_eq_true rfl, Nat.le_of_ble_eq_true rfl⟩, Nat.le_of_ble_eq_true rfl, Nat.le_of_ble_eq_true rfl⟩) (mK hG (by decide)) (mc_327 hG _) rfl (As := [.int (xs (nI i + 1).toNatClampNeg)]) rfl rfl (Nat.le_of_ble_eq_true rfl) (fun r' m' hq2 => ?_)
  obtain ⟨rfl, I2⟩ := hq2
  refine x_icmp_eq (pc := 813) (tgt := 1123) dL_law_813 (by decide) (fun _ => h _ I2) (fun z => absurd rfl z)
end LAW
