/-! THE LAW: its calls, 8 -/
section LAW
variable {l : Launch} {nm : String} {b L i : Nat} {xs : Nat → Int32} {G : Gx} {mem : Mem}
set_option maxRecDepth 100000 in
set_option maxHeartbeats 4000000 in
theorem law_runScript (hG : Mn G) (I : Inv mem) (h1 : vp_in (nI i + 1) L) (h2 : vp_in (nI i + 2) L) (h3 : vp_in (nI i + 3) L) (h : ∀ mem' : Mem, Inv mem' → XLw l nm b L xs G mem' 1123 (lvL b i G) []) : XLw l nm b L xs G mem 951 (lvL b i G) [] := by
  refine x_aload_n (pc := 951) dL_law_951 2 rfl rfl ?_
  refine x_aload_n (pc := 952) dL_law_952 3 rfl rfl ?_
  refine x_iload_n (pc := 953) dL_law_953 0 rfl rfl ?_
  refine x_iconst (pc := 954) (v := 1) dL_law_954 (by decide) ?_
  refine x_iadd (pc := 955) dL_law_955 ?_
  refine x_sld (pc := 956) h1 dL_law_956 ?_
  refine x_aload_n (pc := 957) dL_law_957 3 rfl rfl ?_
  refine x_iload_n (pc := 958) dL_law_958 0 rfl rfl ?_
  refine x_iconst (pc := 959) (v := 2) dL_law_959 (by decide) ?_
  refine x_iadd (pc := 960) dL_law_960 ?_
  refine x_sld (pc := 961) h2 dL_law_961 ?_
  refine x_i2l (pc := 962) dL_law_962 ?_
  refine x_bipush (pc := 963) (v := 32) dL_law_963 (by decide) ?_
  refine x_lshl (pc := 965) dL_law_965 ?_
  refine x_aload_n (pc := 966) dL_law_966 3 rfl rfl ?_
  refine x_iload_n (pc := 967) dL_law_967 0 rfl rfl ?_
  refine x_iconst (pc := 968) (v := 3) dL_law_968 (by decide) ?_
  refine x_iadd (pc := 969) dL_law_969 ?_
  refine x_sld (pc := 970) h3 dL_law_970 ?_
  refine x_i2l (pc := 971) dL_law_971 ?_
  refine x_ldc2 (pc := 972) dL_law_972 tb_1046 ?_
  refine x_land (pc := 975) dL_law_975 ?_
  refine x_lor (pc := 976) dL_law_976 ?_
  refine x_callVI (pc := 977) 0 (op_runScript hG I _ _) ok_X6_runScript dL_law_977 tb_661 (rm_law nm ⟨⟨rfl, rfl⟩, ⟨Nat.le_of_ble_eq_true rfl, Nat.le_of_ble_eq_true rfl⟩, Nat.le_of_ble_eq_true rfl, Nat.le_of_ble_eq_true rfl⟩) (mK hG (by decide)) (mc_0 hG _) rfl (As := [.int (xs (nI i + 1).toNatClampNeg), .long _]) rfl rfl (Nat.le_of_ble_eq_true rfl) (fun r m hq => ?_)
  refine x_aload_n (pc := 980) dL_law_980 1 rfl rfl ?_
  refine x_aload_n (pc := 981) dL_law_981 3 rfl rfl ?_
  refine x_iload_n (pc := 982) dL_law_982 0 rfl rfl ?_
  refine x_iconst (pc := 983) (v := 1) dL_law_983 (by decide) ?_
  refine x_iadd (pc := 984) dL_law_984 ?_
  refine x_sld (pc := 985) h1 dL_law_985 ?_
  refine x_aload_n (pc := 986) dL_law_986 3 rfl rfl ?_
  refine x_iload_n (pc := 987) dL_law_987 0 rfl rfl ?_
  refine x_iconst (pc := 988) (v := 2) dL_law_988 (by decide) ?_
  refine x_iadd (pc := 989) dL_law_989 ?_
  refine x_sld (pc := 990) h2 dL_law_990 ?_
  refine x_i2l (pc := 991) dL_law_991 ?_
  refine x_bipush (pc := 992) (v := 32) dL_law_992 (by decide) ?_
  refine x_lshl (pc := 994) dL_law_994 ?_
  refine x_aload_n (pc := 995) dL_law_995 3 rfl rfl ?_
  refine x_iload_n (pc := 996) dL_law_996 0 rfl rfl ?_
  refine x_iconst (pc := 997) (v := 3) dL_law_997 (by decide) ?_
  refine x_iadd (pc := 998) dL_law_998 ?_
  refine x_sld (pc := 999) h3 dL_law_999 ?_
  refine x_i2l (pc := 1000) dL_law_1000 ?_
  refine x_ldc2 (pc := 1001) dL_law_1001 tb_1046 ?_
  refine x_land (pc := 1004) dL_law_1004 ?_
  refine x_lor (pc := 1005) dL_law_1005 ?_
  refine x_callVI (pc := 1006) 327 hq ok_X7_runScript dL_law_1006 tb_1018 (rm_law nm ⟨⟨rfl, rfl⟩, ⟨Nat.le_of_ble_eq_true rfl, Nat.le_of_ble_eq_true rfl⟩, Nat.le_of_ble_eq_true rfl, Nat.le_of_ble_eq_true rfl⟩) (mK hG (by decide)) (mc_327 hG _) rfl (As := [.int (xs (nI i + 1).toNatClampNeg), .long _]) rfl rfl (Nat.le_of_ble_eq_true rfl) (fun r' m' hq2 => ?_)
  obtain ⟨rfl, I2⟩ := hq2
  refine x_icmp_eq (pc := 1009) (tgt := 1123) dL_law_1009 (by decide) (fun _ => h _ I2) (fun z => absurd rfl z)
set_option maxRecDepth 100000 in
set_option maxHeartbeats 4000000 in
theorem law_randomChanges (hG : Mn G) (I : Inv mem) (h1 : vp_in (nI i + 1) L) (h2 : vp_in (nI i + 2) L) (h3 : vp_in (nI i + 3) L) (h : ∀ mem' : Mem, Inv mem' → XLw l nm b L xs G mem' 1123 (lvL b i G) []) : XLw l nm b L xs G mem 1014 (lvL b i G) [] := by
  refine x_aload_n (pc := 1014) dL_law_1014 2 rfl rfl ?_
  refine x_aload_n (pc := 1015) dL_law_1015 3 rfl rfl ?_
  refine x_iload_n (pc := 1016) dL_law_1016 0 rfl rfl ?_
  refine x_iconst (pc := 1017) (v := 1) dL_law_1017 (by decide) ?_
  refine x_iadd (pc := 1018) dL_law_1018 ?_
  refine x_sld (pc := 1019) h1 dL_law_1019 ?_
  refine x_i2l (pc := 1020) dL_law_1020 ?_
  refine x_bipush (pc := 1021) (v := 32) dL_law_1021 (by decide) ?_
  refine x_lshl (pc := 1023) dL_law_1023 ?_
  refine x_aload_n (pc := 1024) dL_law_1024 3 rfl rfl ?_
  refine x_iload_n (pc := 1025) dL_law_1025 0 rfl rfl ?_
  refine x_iconst (pc := 1026) (v := 2) dL_law_1026 (by decide) ?_
  refine x_iadd (pc := 1027) dL_law_1027 ?_
  refine x_sld (pc := 1028) h2 dL_law_1028 ?_
  refine x_i2l (pc := 1029) dL_law_1029 ?_
  refine x_ldc2 (pc := 1030) dL_law_1030 tb_1046 ?_
  refine x_land (pc := 1033) dL_law_1033 ?_
  refine x_lor (pc := 1034) dL_law_1034 ?_
  refine x_aload_n (pc := 1035) dL_law_1035 3 rfl rfl ?_
  refine x_iload_n (pc := 1036) dL_law_1036 0 rfl rfl ?_
  refine x_iconst (pc := 1037) (v := 3) dL_law_1037 (by decide) ?_
  refine x_iadd (pc := 1038) dL_law_1038 ?_
  refine x_sld (pc := 1039) h3 dL_law_1039 ?_
  refine x_callVI (pc := 1040) 0 (op_randomChanges hG I _ _) ok_X6_randomChanges dL_law_1040 tb_686 (rm_law nm ⟨⟨rfl, rfl⟩, ⟨Nat.le_of_ble_eq_true rfl, Nat.le_of_ble_eq_true rfl⟩, Nat.le_of_ble_eq_true rfl, Nat.le_of_ble_eq_true rfl⟩) (mK hG (by decide)) (mc_0 hG _) rfl (As := [.long _, .int (xs (nI i + 3).toNatClampNeg)]) rfl rfl (Nat.le_of_ble_eq_true rfl) (fun r m hq => ?_)
  refine x_aload_n (pc := 1043) dL_law_1043 1 rfl rfl ?_
  refine x_aload_n (pc := 1044) dL_law_1044 3 rfl rfl ?_
  refine x_iload_n (pc := 1045) dL_law_1045 0 rfl rfl ?_
  refine x_iconst (pc := 1046) (v := 1) dL_law_1046 (by decide) ?_
  refine x_iadd (pc := 1047) dL_law_1047 ?_
  refine x_sld (pc := 1048) h1 dL_law_1048 ?_
  refine x_i2l (pc := 1049) dL_law_1049 ?_
  refine x_bipush (pc := 1050) (v := 32) dL_law_1050 (by decide) ?_
  refine x_lshl (pc := 1052) dL_law_1052 ?_
  refine x_aload_n (pc := 1053) dL_law_1053 3 rfl rfl ?_
  refine x_iload_n (pc := 1054) dL_law_1054 0 rfl rfl ?_
  refine x_iconst (pc := 1055) (v := 2) dL_law_1055 (by decide) ?_
  refine x_iadd (pc := 1056) dL_law_1056 ?_
  refine x_sld (pc := 1057) h2 dL_law_1057 ?_
  refine x_i2l (pc := 1058) dL_law_1058 ?_
  refine x_ldc2 (pc := 1059) dL_law_1059 tb_1046 ?_
  refine x_land (pc := 1062) dL_law_1062 ?_
  refine x_lor (pc := 1063) dL_law_1063 ?_
  refine x_aload_n (pc := 1064) dL_law_1064 3 rfl rfl ?_
  refine x_iload_n (pc := 1065) dL_law_1065 0 rfl rfl ?_
  refine x_iconst (pc := 1066) (v := 3) dL_law_1066 (by decide) ?_
  refine x_iadd (pc := 1067) dL_law_1067 ?_
  refine x_sld (pc := 1068) h3 dL_law_1068 ?_
  refine x_callVI (pc := 1069) 327 hq ok_X7_randomChanges dL_law_1069 tb_1031 (rm_law nm ⟨⟨rfl, rfl⟩, ⟨Nat.le_of_ble_eq_true rfl, Nat.le_of_ble_eq_true rfl⟩, Nat.le_of_ble_eq_true rfl, Nat.le_of_ble_eq_true rfl⟩) (mK hG (by decide)) (mc_327 hG _) rfl (As := [.long _, .int (xs (nI i + 3).toNatClampNeg)]) rfl rfl (Nat.le_of_ble_eq_true rfl) (fun r' m' hq2 => ?_)
  obtain ⟨rfl, I2⟩ := hq2
  refine x_icmp_eq (pc := 1072) (tgt := 1123) dL_law_1072 (by decide) (fun _ => h _ I2) (fun z => absurd rfl z)
set_option maxRecDepth 100000 in
set_option maxHeartbeats 4000000 in
theorem law_save (hG : Mn G) (I : Inv mem) (h1 : vp_in (nI i + 1) L) (h2 : vp_in (nI i + 2) L) (h3 : vp_in (nI i + 3) L) (h : ∀ mem' : Mem, Inv mem' → XLw l nm b L xs G mem' 1123 (lvL b i G) []) : XLw l nm b L xs G mem 1077 (lvL b i G) [] := by
  refine x_aload_n (pc := 1077) dL_law_1077 2 rfl rfl ?_
  refine x_aload_n (pc := 1078) dL_law_1078 3 rfl rfl ?_
  refine x_iload_n (pc := 1079) dL_law_1079 0 rfl rfl ?_
  refine x_iconst (pc := 1080) (v := 1) dL_law_1080 (by decide) ?_
  refine x_iadd (pc := 1081) dL_law_1081 ?_
  refine x_sld (pc := 1082) h1 dL_law_1082 ?_
  refine x_callVI (pc := 1083) 0 (op_save hG I _) ok_X6_save dL_law_1083 tb_697 (rm_law nm ⟨⟨rfl, rfl⟩, ⟨Nat.le_of_ble_eq_true rfl, Nat.le_of_ble_eq_true rfl⟩, Nat.le_of_ble_eq_true rfl, Nat.le_of_ble_eq_true rfl⟩) (mK hG (by decide)) (mc_0 hG _) rfl (As := [.int (xs (nI i + 1).toNatClampNeg)]) rfl rfl (Nat.le_of_ble_eq_true rfl) (fun r m hq => ?_)
  refine x_aload_n (pc := 1086) dL_law_1086 1 rfl rfl ?_
  refine x_aload_n (pc := 1087) dL_law_1087 3 rfl rfl ?_
  refine x_iload_n (pc := 1088) dL_law_1088 0 rfl rfl ?_
  refine x_iconst (pc := 1089) (v := 1) dL_law_1089 (by decide) ?_
  refine x_iadd (pc := 1090) dL_law_1090 ?_
  refine x_sld (pc := 1091) h1 dL_law_1091 ?_
  refine x_callVI (pc := 1092) 327 hq ok_X7_save dL_law_1092 tb_1038 (rm_law nm ⟨⟨rfl, rfl⟩, ⟨Nat.le_of_ble_eq_true rfl, Nat.le_of_ble_eq_true rfl⟩, Nat.le_of_ble_eq_true rfl, Nat.le_of_ble_eq_true rfl⟩) (mK hG (by decide)) (mc_327 hG _) rfl (As := [.int (xs (nI i + 1).toNatClampNeg)]) rfl rfl (Nat.le_of_ble_eq_true rfl) (fun r' m' hq2 => ?_)
  obtain ⟨rfl, I2⟩ := hq2
  refine x_icmp_eq (pc := 1095) (tgt := 1123) dL_law_1095 (by decide) (fun _ => h _ I2) (fun z => absurd rfl z)
set_option maxRecDepth 100000 in
set_option maxHeartbeats 4000000 in
theorem law_restore (hG : Mn G) (I : Inv mem) (h1 : vp_in (nI i + 1) L) (h2 : vp_in (nI i + 2) L) (h3 : vp_in (nI i + 3) L) (h : ∀ mem' : Mem, Inv mem' → XLw l nm b L xs G mem' 1123 (lvL b i G) []) : XLw l nm b L xs G mem 1100 (lvL b i G) [] := by
  refine x_aload_n (pc := 1100) dL_law_1100 2 rfl rfl ?_
  refine x_aload_n (pc := 1101) dL_law_1101 3 rfl rfl ?_
  refine x_iload_n (pc := 1102) dL_law_1102 0 rfl rfl ?_
  refine x_iconst (pc := 1103) (v := 1) dL_law_1103 (by decide) ?_
  refine x_iadd (pc := 1104) dL_law_1104 ?_
  refine x_sld (pc := 1105) h1 dL_law_1105 ?_
  refine x_callVI (pc := 1106) 0 (op_restore hG I _) ok_X6_restore dL_law_1106 tb_701 (rm_law nm ⟨⟨rfl, rfl⟩, ⟨Nat.le_of_ble_eq_true rfl, Nat.le_of_ble_eq_true rfl⟩, Nat.le_of_ble_eq_true rfl, Nat.le_of_ble_eq_true rfl⟩) (mK hG (by decide)) (mc_0 hG _) rfl (As := [.int (xs (nI i + 1).toNatClampNeg)]) rfl rfl (Nat.le_of_ble_eq_true rfl) (fun r m hq => ?_)
  refine x_aload_n (pc := 1109) dL_law_1109 1 rfl rfl ?_
  refine x_aload_n (pc := 1110) dL_law_1110 3 rfl rfl ?_
  refine x_iload_n (pc := 1111) dL_law_1111 0 rfl rfl ?_
  refine x_iconst (pc := 1112) (v := 1) dL_law_1112 (by decide) ?_
  refine x_iadd (pc := 1113) dL_law_1113 ?_
  refine x_sld (pc := 1114) h1 dL_law_1114 ?_
  refine x_callVI (pc := 1115) 327 hq ok_X7_restore dL_law_1115 tb_1042 (rm_law nm ⟨⟨rfl, rfl⟩, ⟨Nat.le_of_ble_eq_true rfl, Nat.le_of_ble_eq_true rfl⟩, Nat.le_of_ble_eq_true rfl, Nat.le_of_ble_eq_true rfl⟩) (mK hG (by decide)) (mc_327 hG _) rfl (As := [.int (xs (nI i + 1).toNatClampNeg)]) rfl rfl (Nat.le_of_ble_eq_true rfl) (fun r' m' hq2 => ?_)
  obtain ⟨rfl, I2⟩ := hq2
  refine x_icmp_eq (pc := 1118) (tgt := 1123) dL_law_1118 (by decide) (fun _ => h _ I2) (fun z => absurd rfl z)
end LAW
