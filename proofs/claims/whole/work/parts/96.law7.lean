/-! THE LAW: its calls, 7 -/
section LAW
variable {l : Launch} {nm : String} {b L i : Nat} {xs : Nat → Int32} {G : Gx} {mem : Mem}
set_option maxRecDepth 100000 in
set_option maxHeartbeats 4000000 in
theorem law_balancedCut (hG : Mn G) (I : Inv mem) (h1 : vp_in (nI i + 1) L) (h2 : vp_in (nI i + 2) L) (h3 : vp_in (nI i + 3) L) (h : ∀ mem' : Mem, Inv mem' → XLw l nm b L xs G mem' 1123 (lvL b i G) []) : XLw l nm b L xs G mem 818 (lvL b i G) [] := by
  refine x_aload_n (pc := 818) dL_law_818 2 rfl rfl ?_
  refine x_aload_n (pc := 819) dL_law_819 3 rfl rfl ?_
  refine x_iload_n (pc := 820) dL_law_820 0 rfl rfl ?_
  refine x_iconst (pc := 821) (v := 1) dL_law_821 (by decide) ?_
  refine x_iadd (pc := 822) dL_law_822 ?_
  refine x_sld (pc := 823) h1 dL_law_823 ?_
  refine x_callVI (pc := 824) 0 (op_balancedCut hG I _) ok_X6_balancedCut dL_law_824 tb_604 (rm_law nm ⟨⟨rfl, rfl⟩, ⟨Nat.le_of_ble_eq_true rfl, Nat.le_of_ble_eq_true rfl⟩, Nat.le_of_ble_eq_true rfl, Nat.le_of_ble_eq_true rfl⟩) (mK hG (by decide)) (mc_0 hG _) rfl (As := [.int (xs (nI i + 1).toNatClampNeg)]) rfl rfl (Nat.le_of_ble_eq_true rfl) (fun r m hq => ?_)
  refine x_aload_n (pc := 827) dL_law_827 1 rfl rfl ?_
  refine x_aload_n (pc := 828) dL_law_828 3 rfl rfl ?_
  refine x_iload_n (pc := 829) dL_law_829 0 rfl rfl ?_
  refine x_iconst (pc := 830) (v := 1) dL_law_830 (by decide) ?_
  refine x_iadd (pc := 831) dL_law_831 ?_
  refine x_sld (pc := 832) h1 dL_law_832 ?_
  refine x_callVI (pc := 833) 327 hq ok_X7_balancedCut dL_law_833 tb_989 (rm_law nm ⟨⟨rfl, rfl⟩, ⟨Nat.le_of_ble_eq_true rfl, Nat.le_of_ble_eq_true rfl⟩, Nat.le_of_ble_eq_true rfl, Nat.le_of_ble_eq_true rfl⟩) (mK hG (by decide)) (mc_327 hG _) rfl (As := [.int (xs (nI i + 1).toNatClampNeg)]) rfl rfl (Nat.le_of_ble_eq_true rfl) (fun r' m' hq2 => ?_)
  obtain ⟨rfl, I2⟩ := hq2
  refine x_icmp_eq (pc := 836) (tgt := 1123) dL_law_836 (by decide) (fun _ => h _ I2) (fun z => absurd rfl z)
set_option maxRecDepth 100000 in
set_option maxHeartbeats 4000000 in
theorem law_expectedReach (hG : Mn G) (I : Inv mem) (h1 : vp_in (nI i + 1) L) (h2 : vp_in (nI i + 2) L) (h3 : vp_in (nI i + 3) L) (h : ∀ mem' : Mem, Inv mem' → XLw l nm b L xs G mem' 1123 (lvL b i G) []) : XLw l nm b L xs G mem 841 (lvL b i G) [] := by
  refine x_aload_n (pc := 841) dL_law_841 2 rfl rfl ?_
  refine x_aload_n (pc := 842) dL_law_842 3 rfl rfl ?_
  refine x_iload_n (pc := 843) dL_law_843 0 rfl rfl ?_
  refine x_iconst (pc := 844) (v := 1) dL_law_844 (by decide) ?_
  refine x_iadd (pc := 845) dL_law_845 ?_
  refine x_sld (pc := 846) h1 dL_law_846 ?_
  refine x_aload_n (pc := 847) dL_law_847 3 rfl rfl ?_
  refine x_iload_n (pc := 848) dL_law_848 0 rfl rfl ?_
  refine x_iconst (pc := 849) (v := 2) dL_law_849 (by decide) ?_
  refine x_iadd (pc := 850) dL_law_850 ?_
  refine x_sld (pc := 851) h2 dL_law_851 ?_
  refine x_callVL (pc := 852) 0 (op_expectedReach hG I _ _) ok_X6_expectedReach dL_law_852 tb_617 (rm_law nm ⟨⟨rfl, rfl⟩, ⟨Nat.le_of_ble_eq_true rfl, Nat.le_of_ble_eq_true rfl⟩, Nat.le_of_ble_eq_true rfl, Nat.le_of_ble_eq_true rfl⟩) (mK hG (by decide)) (mc_0 hG _) rfl (As := [.int (xs (nI i + 1).toNatClampNeg), .int (xs (nI i + 2).toNatClampNeg)]) rfl rfl (Nat.le_of_ble_eq_true rfl) (fun r m hq => ?_)
  refine x_aload_n (pc := 855) dL_law_855 1 rfl rfl ?_
  refine x_aload_n (pc := 856) dL_law_856 3 rfl rfl ?_
  refine x_iload_n (pc := 857) dL_law_857 0 rfl rfl ?_
  refine x_iconst (pc := 858) (v := 1) dL_law_858 (by decide) ?_
  refine x_iadd (pc := 859) dL_law_859 ?_
  refine x_sld (pc := 860) h1 dL_law_860 ?_
  refine x_aload_n (pc := 861) dL_law_861 3 rfl rfl ?_
  refine x_iload_n (pc := 862) dL_law_862 0 rfl rfl ?_
  refine x_iconst (pc := 863) (v := 2) dL_law_863 (by decide) ?_
  refine x_iadd (pc := 864) dL_law_864 ?_
  refine x_sld (pc := 865) h2 dL_law_865 ?_
  refine x_callVL (pc := 866) 327 hq ok_X7_expectedReach dL_law_866 tb_997 (rm_law nm ⟨⟨rfl, rfl⟩, ⟨Nat.le_of_ble_eq_true rfl, Nat.le_of_ble_eq_true rfl⟩, Nat.le_of_ble_eq_true rfl, Nat.le_of_ble_eq_true rfl⟩) (mK hG (by decide)) (mc_327 hG _) rfl (As := [.int (xs (nI i + 1).toNatClampNeg), .int (xs (nI i + 2).toNatClampNeg)]) rfl rfl (Nat.le_of_ble_eq_true rfl) (fun r' m' hq2 => ?_)
  obtain ⟨rfl, I2⟩ := hq2
  refine x_lcmp (pc := 869) dL_law_869 ?_
  refine x_if_eq (pc := 870) (tgt := 1123) dL_law_870 (by decide) (fun _ => h _ I2) (fun z => absurd (lg_self r') z)
set_option maxRecDepth 100000 in
set_option maxHeartbeats 4000000 in
theorem law_observe (hG : Mn G) (I : Inv mem) (h1 : vp_in (nI i + 1) L) (h2 : vp_in (nI i + 2) L) (h3 : vp_in (nI i + 3) L) (h : ∀ mem' : Mem, Inv mem' → XLw l nm b L xs G mem' 1123 (lvL b i G) []) : XLw l nm b L xs G mem 875 (lvL b i G) [] := by
  refine x_aload_n (pc := 875) dL_law_875 2 rfl rfl ?_
  refine x_aload_n (pc := 876) dL_law_876 3 rfl rfl ?_
  refine x_iload_n (pc := 877) dL_law_877 0 rfl rfl ?_
  refine x_iconst (pc := 878) (v := 1) dL_law_878 (by decide) ?_
  refine x_iadd (pc := 879) dL_law_879 ?_
  refine x_sld (pc := 880) h1 dL_law_880 ?_
  refine x_aload_n (pc := 881) dL_law_881 3 rfl rfl ?_
  refine x_iload_n (pc := 882) dL_law_882 0 rfl rfl ?_
  refine x_iconst (pc := 883) (v := 2) dL_law_883 (by decide) ?_
  refine x_iadd (pc := 884) dL_law_884 ?_
  refine x_sld (pc := 885) h2 dL_law_885 ?_
  refine x_aload_n (pc := 886) dL_law_886 3 rfl rfl ?_
  refine x_iload_n (pc := 887) dL_law_887 0 rfl rfl ?_
  refine x_iconst (pc := 888) (v := 3) dL_law_888 (by decide) ?_
  refine x_iadd (pc := 889) dL_law_889 ?_
  refine x_sld (pc := 890) h3 dL_law_890 ?_
  refine x_callVI (pc := 891) 0 (op_observe hG I _ _ _) ok_X6_observe dL_law_891 tb_633 (rm_law nm ⟨⟨rfl, rfl⟩, ⟨Nat.le_of_ble_eq_true rfl, Nat.le_of_ble_eq_true rfl⟩, Nat.le_of_ble_eq_true rfl, Nat.le_of_ble_eq_true rfl⟩) (mK hG (by decide)) (mc_0 hG _) rfl (As := [.int (xs (nI i + 1).toNatClampNeg), .int (xs (nI i + 2).toNatClampNeg), .int (xs (nI i + 3).toNatClampNeg)]) rfl rfl (Nat.le_of_ble_eq_true rfl) (fun r m hq => ?_)
  refine x_aload_n (pc := 894) dL_law_894 1 rfl rfl ?_
  refine x_aload_n (pc := 895) dL_law_895 3 rfl rfl ?_
  refine x_iload_n (pc := 896) dL_law_896 0 rfl rfl ?_
  refine x_iconst (pc := 897) (v := 1) dL_law_897 (by decide) ?_
  refine x_iadd (pc := 898) dL_law_898 ?_
  refine x_sld (pc := 899) h1 dL_law_899 ?_
  refine x_aload_n (pc := 900) dL_law_900 3 rfl rfl ?_
  refine x_iload_n (pc := 901) dL_law_901 0 rfl rfl ?_
  refine x_iconst (pc := 902) (v := 2) dL_law_902 (by decide) ?_
  refine x_iadd (pc := 903) dL_law_903 ?_
  refine x_sld (pc := 904) h2 dL_law_904 ?_
  refine x_aload_n (pc := 905) dL_law_905 3 rfl rfl ?_
  refine x_iload_n (pc := 906) dL_law_906 0 rfl rfl ?_
  refine x_iconst (pc := 907) (v := 3) dL_law_907 (by decide) ?_
  refine x_iadd (pc := 908) dL_law_908 ?_
  refine x_sld (pc := 909) h3 dL_law_909 ?_
  refine x_callVI (pc := 910) 327 hq ok_X7_observe dL_law_910 tb_1004 (rm_law nm ⟨⟨rfl, rfl⟩, ⟨Nat.le_of_ble_eq_true rfl, Nat.le_of_ble_eq_true rfl⟩, Nat.le_of_ble_eq_true rfl, Nat.le_of_ble_eq_true rfl⟩) (mK hG (by decide)) (mc_327 hG _) rfl (As := [.int (xs (nI i + 1).toNatClampNeg), .int (xs (nI i + 2).toNatClampNeg), .int (xs (nI i + 3).toNatClampNeg)]) rfl rfl (Nat.le_of_ble_eq_true rfl) (fun r' m' hq2 => ?_)
  obtain ⟨rfl, I2⟩ := hq2
  refine x_icmp_eq (pc := 913) (tgt := 1123) dL_law_913 (by decide) (fun _ => h _ I2) (fun z => absurd rfl z)
set_option maxRecDepth 100000 in
set_option maxHeartbeats 4000000 in
theorem law_possibleWeights (hG : Mn G) (I : Inv mem) (h1 : vp_in (nI i + 1) L) (h2 : vp_in (nI i + 2) L) (h3 : vp_in (nI i + 3) L) (h : ∀ mem' : Mem, Inv mem' → XLw l nm b L xs G mem' 1123 (lvL b i G) []) : XLw l nm b L xs G mem 918 (lvL b i G) [] := by
  refine x_aload_n (pc := 918) dL_law_918 2 rfl rfl ?_
  refine x_aload_n (pc := 919) dL_law_919 3 rfl rfl ?_
  refine x_iload_n (pc := 920) dL_law_920 0 rfl rfl ?_
  refine x_iconst (pc := 921) (v := 1) dL_law_921 (by decide) ?_
  refine x_iadd (pc := 922) dL_law_922 ?_
  refine x_sld (pc := 923) h1 dL_law_923 ?_
  refine x_aload_n (pc := 924) dL_law_924 3 rfl rfl ?_
  refine x_iload_n (pc := 925) dL_law_925 0 rfl rfl ?_
  refine x_iconst (pc := 926) (v := 2) dL_law_926 (by decide) ?_
  refine x_iadd (pc := 927) dL_law_927 ?_
  refine x_sld (pc := 928) h2 dL_law_928 ?_
  refine x_callVI (pc := 929) 0 (op_possibleWeights hG I _ _) ok_X6_possibleWeights dL_law_929 tb_642 (rm_law nm ⟨⟨rfl, rfl⟩, ⟨Nat.le_of_ble_eq_true rfl, Nat.le_of_ble_eq_true rfl⟩, Nat.le_of_ble_eq_true rfl, Nat.le_of_ble_eq_true rfl⟩) (mK hG (by decide)) (mc_0 hG _) rfl (As := [.int (xs (nI i + 1).toNatClampNeg), .int (xs (nI i + 2).toNatClampNeg)]) rfl rfl (Nat.le_of_ble_eq_true rfl) (fun r m hq => ?_)
  refine x_aload_n (pc := 932) dL_law_932 1 rfl rfl ?_
  refine x_aload_n (pc := 933) dL_law_933 3 rfl rfl ?_
  refine x_iload_n (pc := 934) dL_law_934 0 rfl rfl ?_
  refine x_iconst (pc := 935) (v := 1) dL_law_935 (by decide) ?_
  refine x_iadd (pc := 936) dL_law_936 ?_
  refine x_sld (pc := 937) h1 dL_law_937 ?_
  refine x_aload_n (pc := 938) dL_law_938 3 rfl rfl ?_
  refine x_iload_n (pc := 939) dL_law_939 0 rfl rfl ?_
  refine x_iconst (pc := 940) (v := 2) dL_law_940 (by decide) ?_
  refine x_iadd (pc := 941) dL_law_941 ?_
  refine x_sld (pc := 942) h2 dL_law_942 ?_
  refine x_callVI (pc := 943) 327 hq ok_X7_possibleWeights dL_law_943 tb_1010 (rm_law nm ⟨⟨rfl, rfl⟩, ⟨Nat.le_of_ble_eq_true rfl, Nat.le_of_ble_eq_true rfl⟩, Nat.le_of_ble_eq_true rfl, Nat.le_of_ble_eq_true rfl⟩) (mK hG (by decide)) (mc_327 hG _) rfl (As := [.int (xs (nI i + 1).toNatClampNeg), .int (xs (nI i + 2).toNatClampNeg)]) rfl rfl (Nat.le_of_ble_eq_true rfl) (fun r' m' hq2 => ?_)
  obtain ⟨rfl, I2⟩ := hq2
  refine x_icmp_eq (pc := 946) (tgt := 1123) dL_law_946 (by decide) (fun _ => h _ I2) (fun z => absurd rfl z)
end LAW
