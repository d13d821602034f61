theorem dX7_init_0 : decode cX7_init 0 = .ok (.aload_n 0, 1) := by decide +kernel
theorem dX7_init_1 : decode cX7_init 1 = .ok (.invokespecial 1, 3) := by decide +kernel
theorem dX7_init_4 : decode cX7_init 4 = .ok (.aload_n 0, 1) := by decide +kernel
theorem dX7_init_5 : decode cX7_init 5 = .ok (.bipush 80, 2) := by decide +kernel
theorem dX7_init_7 : decode cX7_init 7 = .ok (.newarray .int, 2) := by decide +kernel
theorem dX7_init_9 : decode cX7_init 9 = .ok (.putfield 7, 3) := by decide +kernel
theorem dX7_init_12 : decode cX7_init 12 = .ok (.aload_n 0, 1) := by decide +kernel
theorem dX7_init_13 : decode cX7_init 13 = .ok (.sipush 156, 3) := by decide +kernel
theorem dX7_init_16 : decode cX7_init 16 = .ok (.newarray .int, 2) := by decide +kernel
theorem dX7_init_18 : decode cX7_init 18 = .ok (.putfield 13, 3) := by decide +kernel
theorem dX7_init_21 : decode cX7_init 21 = .ok (.aload_n 0, 1) := by decide +kernel
theorem dX7_init_22 : decode cX7_init 22 = .ok (.sipush 156, 3) := by decide +kernel
theorem dX7_init_25 : decode cX7_init 25 = .ok (.newarray .int, 2) := by decide +kernel
theorem dX7_init_27 : decode cX7_init 27 = .ok (.putfield 16, 3) := by decide +kernel
theorem dX7_init_30 : decode cX7_init 30 = .ok (.aload_n 0, 1) := by decide +kernel
theorem dX7_init_31 : decode cX7_init 31 = .ok (.sipush 156, 3) := by decide +kernel
theorem dX7_init_34 : decode cX7_init 34 = .ok (.newarray .int, 2) := by decide +kernel
theorem dX7_init_36 : decode cX7_init 36 = .ok (.putfield 19, 3) := by decide +kernel
theorem dX7_init_39 : decode cX7_init 39 = .ok (.aload_n 0, 1) := by decide +kernel
theorem dX7_init_40 : decode cX7_init 40 = .ok (.sipush 2184, 3) := by decide +kernel
theorem dX7_init_43 : decode cX7_init 43 = .ok (.newarray .int, 2) := by decide +kernel
theorem dX7_init_45 : decode cX7_init 45 = .ok (.putfield 22, 3) := by decide +kernel
theorem dX7_init_48 : decode cX7_init 48 = .ok (.aload_n 0, 1) := by decide +kernel
theorem dX7_init_49 : decode cX7_init 49 = .ok (.sipush 312, 3) := by decide +kernel
theorem dX7_init_52 : decode cX7_init 52 = .ok (.newarray .int, 2) := by decide +kernel
theorem dX7_init_54 : decode cX7_init 54 = .ok (.putfield 25, 3) := by decide +kernel
theorem dX7_init_57 : decode cX7_init 57 = .ok (.aload_n 0, 1) := by decide +kernel
theorem dX7_init_58 : decode cX7_init 58 = .ok (.iconst 2, 1) := by decide +kernel
theorem dX7_init_59 : decode cX7_init 59 = .ok (.newarray .boolean, 2) := by decide +kernel
theorem dX7_init_61 : decode cX7_init 61 = .ok (.putfield 28, 3) := by decide +kernel
theorem dX7_init_64 : decode cX7_init 64 = .ok (.aload_n 0, 1) := by decide +kernel
theorem dX7_init_65 : decode cX7_init 65 = .ok (.bipush 18, 2) := by decide +kernel
theorem dX7_init_67 : decode cX7_init 67 = .ok (.newarray .int, 2) := by decide +kernel
theorem dX7_init_69 : decode cX7_init 69 = .ok (.putfield 32, 3) := by decide +kernel
theorem dX7_init_72 : decode cX7_init 72 = .ok (.aload_n 0, 1) := by decide +kernel
theorem dX7_init_73 : decode cX7_init 73 = .ok (.bipush 12, 2) := by decide +kernel
theorem dX7_init_75 : decode cX7_init 75 = .ok (.newarray .int, 2) := by decide +kernel
theorem dX7_init_77 : decode cX7_init 77 = .ok (.putfield 35, 3) := by decide +kernel
theorem dX7_init_80 : decode cX7_init 80 = .ok (.aload_n 0, 1) := by decide +kernel
theorem dX7_init_81 : decode cX7_init 81 = .ok (.bipush 12, 2) := by decide +kernel
theorem dX7_init_83 : decode cX7_init 83 = .ok (.newarray .int, 2) := by decide +kernel
theorem dX7_init_85 : decode cX7_init 85 = .ok (.putfield 38, 3) := by decide +kernel
theorem dX7_init_88 : decode cX7_init 88 = .ok (.aload_n 0, 1) := by decide +kernel
theorem dX7_init_89 : decode cX7_init 89 = .ok (.bipush 12, 2) := by decide +kernel
theorem dX7_init_91 : decode cX7_init 91 = .ok (.newarray .int, 2) := by decide +kernel
theorem dX7_init_93 : decode cX7_init 93 = .ok (.putfield 41, 3) := by decide +kernel
theorem dX7_init_96 : decode cX7_init 96 = .ok (.aload_n 0, 1) := by decide +kernel
theorem dX7_init_97 : decode cX7_init 97 = .ok (.sipush 144, 3) := by decide +kernel
theorem dX7_init_100 : decode cX7_init 100 = .ok (.newarray .int, 2) := by decide +kernel
theorem dX7_init_102 : decode cX7_init 102 = .ok (.putfield 44, 3) := by decide +kernel
theorem dX7_init_105 : decode cX7_init 105 = .ok (.aload_n 0, 1) := by decide +kernel
theorem dX7_init_106 : decode cX7_init 106 = .ok (.bipush 12, 2) := by decide +kernel
theorem dX7_init_108 : decode cX7_init 108 = .ok (.newarray .boolean, 2) := by decide +kernel
theorem dX7_init_110 : decode cX7_init 110 = .ok (.putfield 47, 3) := by decide +kernel
theorem dX7_init_113 : decode cX7_init 113 = .ok (.aload_n 0, 1) := by decide +kernel
theorem dX7_init_114 : decode cX7_init 114 = .ok (.bipush 12, 2) := by decide +kernel
theorem dX7_init_116 : decode cX7_init 116 = .ok (.newarray .boolean, 2) := by decide +kernel
theorem dX7_init_118 : decode cX7_init 118 = .ok (.putfield 50, 3) := by decide +kernel
theorem dX7_init_121 : decode cX7_init 121 = .ok (.aload_n 0, 1) := by decide +kernel
theorem dX7_init_122 : decode cX7_init 122 = .ok (.bipush 12, 2) := by decide +kernel
theorem dX7_init_124 : decode cX7_init 124 = .ok (.newarray .int, 2) := by decide +kernel
theorem dX7_init_126 : decode cX7_init 126 = .ok (.putfield 53, 3) := by decide +kernel
theorem dX7_init_129 : decode cX7_init 129 = .ok (.aload_n 0, 1) := by decide +kernel
theorem dX7_init_130 : decode cX7_init 130 = .ok (.bipush 12, 2) := by decide +kernel
theorem dX7_init_132 : decode cX7_init 132 = .ok (.putfield 56, 3) := by decide +kernel
theorem dX7_init_135 : decode cX7_init 135 = .ok (.iconst 0, 1) := by decide +kernel
theorem dX7_init_136 : decode cX7_init 136 = .ok (.istore_n 1, 1) := by decide +kernel
theorem dX7_init_137 : decode cX7_init 137 = .ok (.iload_n 1, 1) := by decide +kernel
theorem dX7_init_138 : decode cX7_init 138 = .ok (.bipush 12, 2) := by decide +kernel
theorem dX7_init_140 : decode cX7_init 140 = .ok (.if_icmp .ge 16, 3) := by decide +kernel
theorem dX7_init_143 : decode cX7_init 143 = .ok (.aload_n 0, 1) := by decide +kernel
theorem dX7_init_144 : decode cX7_init 144 = .ok (.getfield 13, 3) := by decide +kernel
theorem dX7_init_147 : decode cX7_init 147 = .ok (.iload_n 1, 1) := by decide +kernel
theorem dX7_init_148 : decode cX7_init 148 = .ok (.iconst 1, 1) := by decide +kernel
theorem dX7_init_149 : decode cX7_init 149 = .ok (.iastore, 1) := by decide +kernel
theorem dX7_init_150 : decode cX7_init 150 = .ok (.iinc 1 1, 3) := by decide +kernel
theorem dX7_init_153 : decode cX7_init 153 = .ok (.goto (-16), 3) := by decide +kernel
theorem dX7_init_156 : decode cX7_init 156 = .ok (.return_, 1) := by decide +kernel
theorem dX7_in_0 : decode cX7_in 0 = .ok (.lload_n 0, 1) := by decide +kernel
theorem dX7_in_1 : decode cX7_in 1 = .ok (.lload_n 2, 1) := by decide +kernel
theorem dX7_in_2 : decode cX7_in 2 = .ok (.lcmp, 1) := by decide +kernel
theorem dX7_in_3 : decode cX7_in 3 = .ok (.ifCond .lt 14, 3) := by decide +kernel
theorem dX7_in_6 : decode cX7_in 6 = .ok (.lload_n 0, 1) := by decide +kernel
theorem dX7_in_7 : decode cX7_in 7 = .ok (.lload 4, 2) := by decide +kernel
theorem dX7_in_9 : decode cX7_in 9 = .ok (.lcmp, 1) := by decide +kernel
theorem dX7_in_10 : decode cX7_in 10 = .ok (.ifCond .gt 7, 3) := by decide +kernel
theorem dX7_in_13 : decode cX7_in 13 = .ok (.iconst 1, 1) := by decide +kernel
theorem dX7_in_14 : decode cX7_in 14 = .ok (.goto 4, 3) := by decide +kernel
theorem dX7_in_17 : decode cX7_in 17 = .ok (.iconst 0, 1) := by decide +kernel
theorem dX7_in_18 : decode cX7_in 18 = .ok (.ireturn, 1) := by decide +kernel
theorem dX7_copy_0 : decode cX7_copy 0 = .ok (.iconst 0, 1) := by decide +kernel
theorem dX7_copy_1 : decode cX7_copy 1 = .ok (.istore_n 2, 1) := by decide +kernel
theorem dX7_copy_2 : decode cX7_copy 2 = .ok (.iload_n 2, 1) := by decide +kernel
theorem dX7_copy_3 : decode cX7_copy 3 = .ok (.sipush 156, 3) := by decide +kernel
theorem dX7_copy_6 : decode cX7_copy 6 = .ok (.if_icmp .ge 15, 3) := by decide +kernel
theorem dX7_copy_9 : decode cX7_copy 9 = .ok (.aload_n 1, 1) := by decide +kernel
theorem dX7_copy_10 : decode cX7_copy 10 = .ok (.iload_n 2, 1) := by decide +kernel
theorem dX7_copy_11 : decode cX7_copy 11 = .ok (.aload_n 0, 1) := by decide +kernel
theorem dX7_copy_12 : decode cX7_copy 12 = .ok (.iload_n 2, 1) := by decide +kernel
theorem dX7_copy_13 : decode cX7_copy 13 = .ok (.iaload, 1) := by decide +kernel
theorem dX7_copy_14 : decode cX7_copy 14 = .ok (.iastore, 1) := by decide +kernel
theorem dX7_copy_15 : decode cX7_copy 15 = .ok (.iinc 2 1, 3) := by decide +kernel
theorem dX7_copy_18 : decode cX7_copy 18 = .ok (.goto (-16), 3) := by decide +kernel
theorem dX7_copy_21 : decode cX7_copy 21 = .ok (.return_, 1) := by decide +kernel
theorem dX7_at_0 : decode cX7_at 0 = .ok (.bipush 12, 2) := by decide +kernel
theorem dX7_at_2 : decode cX7_at 2 = .ok (.bipush 12, 2) := by decide +kernel
theorem dX7_at_4 : decode cX7_at 4 = .ok (.iload_n 0, 1) := by decide +kernel
theorem dX7_at_5 : decode cX7_at 5 = .ok (.imul, 1) := by decide +kernel
theorem dX7_at_6 : decode cX7_at 6 = .ok (.iadd, 1) := by decide +kernel
theorem dX7_at_7 : decode cX7_at 7 = .ok (.iload_n 1, 1) := by decide +kernel
theorem dX7_at_8 : decode cX7_at 8 = .ok (.iadd, 1) := by decide +kernel
theorem dX7_at_9 : decode cX7_at 9 = .ok (.ireturn, 1) := by decide +kernel
theorem dX7_isVertex_0 : decode cX7_isVertex 0 = .ok (.iload_n 1, 1) := by decide +kernel
theorem dX7_isVertex_1 : decode cX7_isVertex 1 = .ok (.i2l, 1) := by decide +kernel
theorem dX7_isVertex_2 : decode cX7_isVertex 2 = .ok (.lconst 0, 1) := by decide +kernel
theorem dX7_isVertex_3 : decode cX7_isVertex 3 = .ok (.aload_n 0, 1) := by decide +kernel
theorem dX7_isVertex_4 : decode cX7_isVertex 4 = .ok (.getfield 56, 3) := by decide +kernel
theorem dX7_isVertex_7 : decode cX7_isVertex 7 = .ok (.iconst 1, 1) := by decide +kernel
theorem dX7_isVertex_8 : decode cX7_isVertex 8 = .ok (.isub, 1) := by decide +kernel
theorem dX7_isVertex_9 : decode cX7_isVertex 9 = .ok (.i2l, 1) := by decide +kernel
theorem dX7_isVertex_10 : decode cX7_isVertex 10 = .ok (.invokestatic 60, 3) := by decide +kernel
theorem dX7_isVertex_13 : decode cX7_isVertex 13 = .ok (.ireturn, 1) := by decide +kernel
theorem dX7_edgesOf_0 : decode cX7_edgesOf 0 = .ok (.iconst 0, 1) := by decide +kernel
theorem dX7_edgesOf_1 : decode cX7_edgesOf 1 = .ok (.istore_n 1, 1) := by decide +kernel
theorem dX7_edgesOf_2 : decode cX7_edgesOf 2 = .ok (.bipush 12, 2) := by decide +kernel
theorem dX7_edgesOf_4 : decode cX7_edgesOf 4 = .ok (.istore_n 2, 1) := by decide +kernel
theorem dX7_edgesOf_5 : decode cX7_edgesOf 5 = .ok (.iload_n 2, 1) := by decide +kernel
theorem dX7_edgesOf_6 : decode cX7_edgesOf 6 = .ok (.sipush 156, 3) := by decide +kernel
theorem dX7_edgesOf_9 : decode cX7_edgesOf 9 = .ok (.if_icmp .ge 23, 3) := by decide +kernel
theorem dX7_edgesOf_12 : decode cX7_edgesOf 12 = .ok (.iload_n 1, 1) := by decide +kernel
theorem dX7_edgesOf_13 : decode cX7_edgesOf 13 = .ok (.aload_n 0, 1) := by decide +kernel
theorem dX7_edgesOf_14 : decode cX7_edgesOf 14 = .ok (.iload_n 2, 1) := by decide +kernel
theorem dX7_edgesOf_15 : decode cX7_edgesOf 15 = .ok (.iaload, 1) := by decide +kernel
theorem dX7_edgesOf_16 : decode cX7_edgesOf 16 = .ok (.ifCond .le 7, 3) := by decide +kernel
theorem dX7_edgesOf_19 : decode cX7_edgesOf 19 = .ok (.iconst 1, 1) := by decide +kernel
theorem dX7_edgesOf_20 : decode cX7_edgesOf 20 = .ok (.goto 4, 3) := by decide +kernel
theorem dX7_edgesOf_23 : decode cX7_edgesOf 23 = .ok (.iconst 0, 1) := by decide +kernel
theorem dX7_edgesOf_24 : decode cX7_edgesOf 24 = .ok (.iadd, 1) := by decide +kernel
theorem dX7_edgesOf_25 : decode cX7_edgesOf 25 = .ok (.istore_n 1, 1) := by decide +kernel
theorem dX7_edgesOf_26 : decode cX7_edgesOf 26 = .ok (.iinc 2 1, 3) := by decide +kernel
theorem dX7_edgesOf_29 : decode cX7_edgesOf 29 = .ok (.goto (-24), 3) := by decide +kernel
theorem dX7_edgesOf_32 : decode cX7_edgesOf 32 = .ok (.iload_n 1, 1) := by decide +kernel
theorem dX7_edgesOf_33 : decode cX7_edgesOf 33 = .ok (.iconst 2, 1) := by decide +kernel
theorem dX7_edgesOf_34 : decode cX7_edgesOf 34 = .ok (.idiv, 1) := by decide +kernel
theorem dX7_edgesOf_35 : decode cX7_edgesOf 35 = .ok (.ireturn, 1) := by decide +kernel
theorem dX7_join_0 : decode cX7_join 0 = .ok (.aload_n 0, 1) := by decide +kernel
theorem dX7_join_1 : decode cX7_join 1 = .ok (.iload_n 1, 1) := by decide +kernel
theorem dX7_join_2 : decode cX7_join 2 = .ok (.iload_n 2, 1) := by decide +kernel
theorem dX7_join_3 : decode cX7_join 3 = .ok (.invokestatic 64, 3) := by decide +kernel
theorem dX7_join_6 : decode cX7_join 6 = .ok (.iload_n 3, 1) := by decide +kernel
theorem dX7_join_7 : decode cX7_join 7 = .ok (.iastore, 1) := by decide +kernel
theorem dX7_join_8 : decode cX7_join 8 = .ok (.aload_n 0, 1) := by decide +kernel
theorem dX7_join_9 : decode cX7_join 9 = .ok (.iload_n 2, 1) := by decide +kernel
theorem dX7_join_10 : decode cX7_join 10 = .ok (.iload_n 1, 1) := by decide +kernel
theorem dX7_join_11 : decode cX7_join 11 = .ok (.invokestatic 64, 3) := by decide +kernel
theorem dX7_join_14 : decode cX7_join 14 = .ok (.iload_n 3, 1) := by decide +kernel
theorem dX7_join_15 : decode cX7_join 15 = .ok (.iastore, 1) := by decide +kernel
theorem dX7_join_16 : decode cX7_join 16 = .ok (.return_, 1) := by decide +kernel
theorem dX7_layFar_0 : decode cX7_layFar 0 = .ok (.iconst 0, 1) := by decide +kernel
theorem dX7_layFar_1 : decode cX7_layFar 1 = .ok (.istore_n 3, 1) := by decide +kernel
theorem dX7_layFar_2 : decode cX7_layFar 2 = .ok (.iload_n 3, 1) := by decide +kernel
theorem dX7_layFar_3 : decode cX7_layFar 3 = .ok (.bipush 12, 2) := by decide +kernel
theorem dX7_layFar_5 : decode cX7_layFar 5 = .ok (.if_icmp .ge 43, 3) := by decide +kernel
theorem dX7_layFar_8 : decode cX7_layFar 8 = .ok (.aload_n 0, 1) := by decide +kernel
theorem dX7_layFar_9 : decode cX7_layFar 9 = .ok (.getfield 35, 3) := by decide +kernel
theorem dX7_layFar_12 : decode cX7_layFar 12 = .ok (.iload_n 3, 1) := by decide +kernel
theorem dX7_layFar_13 : decode cX7_layFar 13 = .ok (.iload_n 3, 1) := by decide +kernel
theorem dX7_layFar_14 : decode cX7_layFar 14 = .ok (.iload_n 2, 1) := by decide +kernel
theorem dX7_layFar_15 : decode cX7_layFar 15 = .ok (.if_icmp .ne 7, 3) := by decide +kernel
theorem dX7_layFar_18 : decode cX7_layFar 18 = .ok (.iconst 0, 1) := by decide +kernel
theorem dX7_layFar_19 : decode cX7_layFar 19 = .ok (.goto 5, 3) := by decide +kernel
theorem dX7_layFar_22 : decode cX7_layFar 22 = .ok (.bipush (-9), 2) := by decide +kernel
theorem dX7_layFar_24 : decode cX7_layFar 24 = .ok (.iastore, 1) := by decide +kernel
theorem dX7_layFar_25 : decode cX7_layFar 25 = .ok (.aload_n 0, 1) := by decide +kernel
theorem dX7_layFar_26 : decode cX7_layFar 26 = .ok (.getfield 38, 3) := by decide +kernel
theorem dX7_layFar_29 : decode cX7_layFar 29 = .ok (.iload_n 3, 1) := by decide +kernel
theorem dX7_layFar_30 : decode cX7_layFar 30 = .ok (.iload_n 3, 1) := by decide +kernel
theorem dX7_layFar_31 : decode cX7_layFar 31 = .ok (.iload_n 2, 1) := by decide +kernel
theorem dX7_layFar_32 : decode cX7_layFar 32 = .ok (.if_icmp .ne 7, 3) := by decide +kernel
theorem dX7_layFar_35 : decode cX7_layFar 35 = .ok (.iconst 0, 1) := by decide +kernel
theorem dX7_layFar_36 : decode cX7_layFar 36 = .ok (.goto 5, 3) := by decide +kernel
theorem dX7_layFar_39 : decode cX7_layFar 39 = .ok (.bipush (-9), 2) := by decide +kernel
theorem dX7_layFar_41 : decode cX7_layFar 41 = .ok (.iastore, 1) := by decide +kernel
theorem dX7_layFar_42 : decode cX7_layFar 42 = .ok (.iinc 3 1, 3) := by decide +kernel
theorem dX7_layFar_45 : decode cX7_layFar 45 = .ok (.goto (-43), 3) := by decide +kernel
theorem dX7_layFar_48 : decode cX7_layFar 48 = .ok (.iconst 1, 1) := by decide +kernel
theorem dX7_layFar_49 : decode cX7_layFar 49 = .ok (.istore_n 3, 1) := by decide +kernel
theorem dX7_layFar_50 : decode cX7_layFar 50 = .ok (.iload_n 3, 1) := by decide +kernel
theorem dX7_layFar_51 : decode cX7_layFar 51 = .ok (.ifCond .eq 118, 3) := by decide +kernel
theorem dX7_layFar_54 : decode cX7_layFar 54 = .ok (.iconst 0, 1) := by decide +kernel
theorem dX7_layFar_55 : decode cX7_layFar 55 = .ok (.istore_n 3, 1) := by decide +kernel
theorem dX7_layFar_56 : decode cX7_layFar 56 = .ok (.iconst 0, 1) := by decide +kernel
theorem dX7_layFar_57 : decode cX7_layFar 57 = .ok (.istore 4, 2) := by decide +kernel
theorem dX7_layFar_59 : decode cX7_layFar 59 = .ok (.iload 4, 2) := by decide +kernel
theorem dX7_layFar_61 : decode cX7_layFar 61 = .ok (.bipush 12, 2) := by decide +kernel
theorem dX7_layFar_63 : decode cX7_layFar 63 = .ok (.if_icmp .ge 103, 3) := by decide +kernel
theorem dX7_layFar_66 : decode cX7_layFar 66 = .ok (.iconst 0, 1) := by decide +kernel
theorem dX7_layFar_67 : decode cX7_layFar 67 = .ok (.istore 5, 2) := by decide +kernel
theorem dX7_layFar_69 : decode cX7_layFar 69 = .ok (.iload 5, 2) := by decide +kernel
theorem dX7_layFar_71 : decode cX7_layFar 71 = .ok (.bipush 12, 2) := by decide +kernel
theorem dX7_layFar_73 : decode cX7_layFar 73 = .ok (.if_icmp .ge 87, 3) := by decide +kernel
theorem dX7_layFar_76 : decode cX7_layFar 76 = .ok (.aload_n 0, 1) := by decide +kernel
theorem dX7_layFar_77 : decode cX7_layFar 77 = .ok (.getfield 35, 3) := by decide +kernel
theorem dX7_layFar_80 : decode cX7_layFar 80 = .ok (.iload 4, 2) := by decide +kernel
theorem dX7_layFar_82 : decode cX7_layFar 82 = .ok (.iaload, 1) := by decide +kernel
theorem dX7_layFar_83 : decode cX7_layFar 83 = .ok (.bipush (-9), 2) := by decide +kernel
theorem dX7_layFar_85 : decode cX7_layFar 85 = .ok (.if_icmp .eq 75, 3) := by decide +kernel
theorem dX7_layFar_88 : decode cX7_layFar 88 = .ok (.aload_n 1, 1) := by decide +kernel
theorem dX7_layFar_89 : decode cX7_layFar 89 = .ok (.iload 4, 2) := by decide +kernel
theorem dX7_layFar_91 : decode cX7_layFar 91 = .ok (.iload 5, 2) := by decide +kernel
theorem dX7_layFar_93 : decode cX7_layFar 93 = .ok (.invokestatic 64, 3) := by decide +kernel
theorem dX7_layFar_96 : decode cX7_layFar 96 = .ok (.iaload, 1) := by decide +kernel
theorem dX7_layFar_97 : decode cX7_layFar 97 = .ok (.ifCond .le 57, 3) := by decide +kernel
theorem dX7_layFar_100 : decode cX7_layFar 100 = .ok (.aload_n 0, 1) := by decide +kernel
theorem dX7_layFar_101 : decode cX7_layFar 101 = .ok (.getfield 35, 3) := by decide +kernel
theorem dX7_layFar_104 : decode cX7_layFar 104 = .ok (.iload 5, 2) := by decide +kernel
theorem dX7_layFar_106 : decode cX7_layFar 106 = .ok (.iaload, 1) := by decide +kernel
theorem dX7_layFar_107 : decode cX7_layFar 107 = .ok (.bipush (-9), 2) := by decide +kernel
theorem dX7_layFar_109 : decode cX7_layFar 109 = .ok (.if_icmp .ne 45, 3) := by decide +kernel
theorem dX7_layFar_112 : decode cX7_layFar 112 = .ok (.aload_n 0, 1) := by decide +kernel
theorem dX7_layFar_113 : decode cX7_layFar 113 = .ok (.getfield 35, 3) := by decide +kernel
theorem dX7_layFar_116 : decode cX7_layFar 116 = .ok (.iload 5, 2) := by decide +kernel
theorem dX7_layFar_118 : decode cX7_layFar 118 = .ok (.aload_n 0, 1) := by decide +kernel
theorem dX7_layFar_119 : decode cX7_layFar 119 = .ok (.getfield 35, 3) := by decide +kernel
theorem dX7_layFar_122 : decode cX7_layFar 122 = .ok (.iload 4, 2) := by decide +kernel
theorem dX7_layFar_124 : decode cX7_layFar 124 = .ok (.iaload, 1) := by decide +kernel
theorem dX7_layFar_125 : decode cX7_layFar 125 = .ok (.aload_n 1, 1) := by decide +kernel
theorem dX7_layFar_126 : decode cX7_layFar 126 = .ok (.iload 4, 2) := by decide +kernel
theorem dX7_layFar_128 : decode cX7_layFar 128 = .ok (.iload 5, 2) := by decide +kernel
theorem dX7_layFar_130 : decode cX7_layFar 130 = .ok (.invokestatic 64, 3) := by decide +kernel
theorem dX7_layFar_133 : decode cX7_layFar 133 = .ok (.iaload, 1) := by decide +kernel
theorem dX7_layFar_134 : decode cX7_layFar 134 = .ok (.iadd, 1) := by decide +kernel
theorem dX7_layFar_135 : decode cX7_layFar 135 = .ok (.iastore, 1) := by decide +kernel
theorem dX7_layFar_136 : decode cX7_layFar 136 = .ok (.aload_n 0, 1) := by decide +kernel
theorem dX7_layFar_137 : decode cX7_layFar 137 = .ok (.getfield 38, 3) := by decide +kernel
theorem dX7_layFar_140 : decode cX7_layFar 140 = .ok (.iload 5, 2) := by decide +kernel
theorem dX7_layFar_142 : decode cX7_layFar 142 = .ok (.aload_n 0, 1) := by decide +kernel
theorem dX7_layFar_143 : decode cX7_layFar 143 = .ok (.getfield 38, 3) := by decide +kernel
theorem dX7_layFar_146 : decode cX7_layFar 146 = .ok (.iload 4, 2) := by decide +kernel
theorem dX7_layFar_148 : decode cX7_layFar 148 = .ok (.iaload, 1) := by decide +kernel
theorem dX7_layFar_149 : decode cX7_layFar 149 = .ok (.iconst 1, 1) := by decide +kernel
theorem dX7_layFar_150 : decode cX7_layFar 150 = .ok (.iadd, 1) := by decide +kernel
theorem dX7_layFar_151 : decode cX7_layFar 151 = .ok (.iastore, 1) := by decide +kernel
theorem dX7_layFar_152 : decode cX7_layFar 152 = .ok (.iconst 1, 1) := by decide +kernel
theorem dX7_layFar_153 : decode cX7_layFar 153 = .ok (.istore_n 3, 1) := by decide +kernel
theorem dX7_layFar_154 : decode cX7_layFar 154 = .ok (.iinc 5 1, 3) := by decide +kernel
theorem dX7_layFar_157 : decode cX7_layFar 157 = .ok (.goto (-88), 3) := by decide +kernel
theorem dX7_layFar_160 : decode cX7_layFar 160 = .ok (.iinc 4 1, 3) := by decide +kernel
theorem dX7_layFar_163 : decode cX7_layFar 163 = .ok (.goto (-104), 3) := by decide +kernel
theorem dX7_layFar_166 : decode cX7_layFar 166 = .ok (.goto (-116), 3) := by decide +kernel
theorem dX7_layFar_169 : decode cX7_layFar 169 = .ok (.return_, 1) := by decide +kernel
theorem dX7_farOf_0 : decode cX7_farOf 0 = .ok (.aload_n 0, 1) := by decide +kernel
theorem dX7_farOf_1 : decode cX7_farOf 1 = .ok (.aload_n 1, 1) := by decide +kernel
theorem dX7_farOf_2 : decode cX7_farOf 2 = .ok (.iload_n 2, 1) := by decide +kernel
theorem dX7_farOf_3 : decode cX7_farOf 3 = .ok (.invokevirtual 68, 3) := by decide +kernel
theorem dX7_farOf_6 : decode cX7_farOf 6 = .ok (.aload_n 0, 1) := by decide +kernel
theorem dX7_farOf_7 : decode cX7_farOf 7 = .ok (.getfield 35, 3) := by decide +kernel
theorem dX7_farOf_10 : decode cX7_farOf 10 = .ok (.iload_n 3, 1) := by decide +kernel
theorem dX7_farOf_11 : decode cX7_farOf 11 = .ok (.iaload, 1) := by decide +kernel
theorem dX7_farOf_12 : decode cX7_farOf 12 = .ok (.ireturn, 1) := by decide +kernel
theorem dX7_isOneTree_0 : decode cX7_isOneTree 0 = .ok (.aload_n 0, 1) := by decide +kernel
theorem dX7_isOneTree_1 : decode cX7_isOneTree 1 = .ok (.aload_n 1, 1) := by decide +kernel
theorem dX7_isOneTree_2 : decode cX7_isOneTree 2 = .ok (.iload_n 2, 1) := by decide +kernel
theorem dX7_isOneTree_3 : decode cX7_isOneTree 3 = .ok (.iload_n 3, 1) := by decide +kernel
theorem dX7_isOneTree_4 : decode cX7_isOneTree 4 = .ok (.invokevirtual 72, 3) := by decide +kernel
theorem dX7_isOneTree_7 : decode cX7_isOneTree 7 = .ok (.bipush (-9), 2) := by decide +kernel
theorem dX7_isOneTree_9 : decode cX7_isOneTree 9 = .ok (.if_icmp .eq 7, 3) := by decide +kernel
theorem dX7_isOneTree_12 : decode cX7_isOneTree 12 = .ok (.iconst 1, 1) := by decide +kernel
theorem dX7_isOneTree_13 : decode cX7_isOneTree 13 = .ok (.goto 4, 3) := by decide +kernel
theorem dX7_isOneTree_16 : decode cX7_isOneTree 16 = .ok (.iconst 0, 1) := by decide +kernel
theorem dX7_isOneTree_17 : decode cX7_isOneTree 17 = .ok (.ireturn, 1) := by decide +kernel
theorem dX7_eccentricityOf_0 : decode cX7_eccentricityOf 0 = .ok (.aload_n 0, 1) := by decide +kernel
theorem dX7_eccentricityOf_1 : decode cX7_eccentricityOf 1 = .ok (.aload_n 1, 1) := by decide +kernel
theorem dX7_eccentricityOf_2 : decode cX7_eccentricityOf 2 = .ok (.iload_n 2, 1) := by decide +kernel
theorem dX7_eccentricityOf_3 : decode cX7_eccentricityOf 3 = .ok (.invokevirtual 68, 3) := by decide +kernel
theorem dX7_eccentricityOf_6 : decode cX7_eccentricityOf 6 = .ok (.iconst 0, 1) := by decide +kernel
theorem dX7_eccentricityOf_7 : decode cX7_eccentricityOf 7 = .ok (.istore_n 3, 1) := by decide +kernel
theorem dX7_eccentricityOf_8 : decode cX7_eccentricityOf 8 = .ok (.iconst 0, 1) := by decide +kernel
theorem dX7_eccentricityOf_9 : decode cX7_eccentricityOf 9 = .ok (.istore 4, 2) := by decide +kernel
theorem dX7_eccentricityOf_11 : decode cX7_eccentricityOf 11 = .ok (.iload 4, 2) := by decide +kernel
theorem dX7_eccentricityOf_13 : decode cX7_eccentricityOf 13 = .ok (.aload_n 0, 1) := by decide +kernel
theorem dX7_eccentricityOf_14 : decode cX7_eccentricityOf 14 = .ok (.getfield 56, 3) := by decide +kernel
theorem dX7_eccentricityOf_17 : decode cX7_eccentricityOf 17 = .ok (.if_icmp .ge 32, 3) := by decide +kernel
theorem dX7_eccentricityOf_20 : decode cX7_eccentricityOf 20 = .ok (.aload_n 0, 1) := by decide +kernel
theorem dX7_eccentricityOf_21 : decode cX7_eccentricityOf 21 = .ok (.getfield 35, 3) := by decide +kernel
theorem dX7_eccentricityOf_24 : decode cX7_eccentricityOf 24 = .ok (.iload 4, 2) := by decide +kernel
theorem dX7_eccentricityOf_26 : decode cX7_eccentricityOf 26 = .ok (.iaload, 1) := by decide +kernel
theorem dX7_eccentricityOf_27 : decode cX7_eccentricityOf 27 = .ok (.iload_n 3, 1) := by decide +kernel
theorem dX7_eccentricityOf_28 : decode cX7_eccentricityOf 28 = .ok (.if_icmp .le 13, 3) := by decide +kernel
theorem dX7_eccentricityOf_31 : decode cX7_eccentricityOf 31 = .ok (.aload_n 0, 1) := by decide +kernel
theorem dX7_eccentricityOf_32 : decode cX7_eccentricityOf 32 = .ok (.getfield 35, 3) := by decide +kernel
theorem dX7_eccentricityOf_35 : decode cX7_eccentricityOf 35 = .ok (.iload 4, 2) := by decide +kernel
theorem dX7_eccentricityOf_37 : decode cX7_eccentricityOf 37 = .ok (.iaload, 1) := by decide +kernel
theorem dX7_eccentricityOf_38 : decode cX7_eccentricityOf 38 = .ok (.goto 4, 3) := by decide +kernel
theorem dX7_eccentricityOf_41 : decode cX7_eccentricityOf 41 = .ok (.iload_n 3, 1) := by decide +kernel
theorem dX7_eccentricityOf_42 : decode cX7_eccentricityOf 42 = .ok (.istore_n 3, 1) := by decide +kernel
theorem dX7_eccentricityOf_43 : decode cX7_eccentricityOf 43 = .ok (.iinc 4 1, 3) := by decide +kernel
theorem dX7_eccentricityOf_46 : decode cX7_eccentricityOf 46 = .ok (.goto (-35), 3) := by decide +kernel
theorem dX7_eccentricityOf_49 : decode cX7_eccentricityOf 49 = .ok (.iload_n 3, 1) := by decide +kernel
theorem dX7_eccentricityOf_50 : decode cX7_eccentricityOf 50 = .ok (.ireturn, 1) := by decide +kernel
theorem dX7_diameterOf_0 : decode cX7_diameterOf 0 = .ok (.aload_n 0, 1) := by decide +kernel
theorem dX7_diameterOf_1 : decode cX7_diameterOf 1 = .ok (.aload_n 1, 1) := by decide +kernel
theorem dX7_diameterOf_2 : decode cX7_diameterOf 2 = .ok (.iload_n 2, 1) := by decide +kernel
theorem dX7_diameterOf_3 : decode cX7_diameterOf 3 = .ok (.invokevirtual 68, 3) := by decide +kernel
theorem dX7_diameterOf_6 : decode cX7_diameterOf 6 = .ok (.iconst 0, 1) := by decide +kernel
theorem dX7_diameterOf_7 : decode cX7_diameterOf 7 = .ok (.istore_n 3, 1) := by decide +kernel
theorem dX7_diameterOf_8 : decode cX7_diameterOf 8 = .ok (.iload_n 3, 1) := by decide +kernel
theorem dX7_diameterOf_9 : decode cX7_diameterOf 9 = .ok (.aload_n 0, 1) := by decide +kernel
theorem dX7_diameterOf_10 : decode cX7_diameterOf 10 = .ok (.getfield 56, 3) := by decide +kernel
theorem dX7_diameterOf_13 : decode cX7_diameterOf 13 = .ok (.if_icmp .ge 21, 3) := by decide +kernel
theorem dX7_diameterOf_16 : decode cX7_diameterOf 16 = .ok (.aload_n 0, 1) := by decide +kernel
theorem dX7_diameterOf_17 : decode cX7_diameterOf 17 = .ok (.getfield 41, 3) := by decide +kernel
theorem dX7_diameterOf_20 : decode cX7_diameterOf 20 = .ok (.iload_n 3, 1) := by decide +kernel
theorem dX7_diameterOf_21 : decode cX7_diameterOf 21 = .ok (.aload_n 0, 1) := by decide +kernel
theorem dX7_diameterOf_22 : decode cX7_diameterOf 22 = .ok (.getfield 35, 3) := by decide +kernel
theorem dX7_diameterOf_25 : decode cX7_diameterOf 25 = .ok (.iload_n 3, 1) := by decide +kernel
theorem dX7_diameterOf_26 : decode cX7_diameterOf 26 = .ok (.iaload, 1) := by decide +kernel
theorem dX7_diameterOf_27 : decode cX7_diameterOf 27 = .ok (.iastore, 1) := by decide +kernel
theorem dX7_diameterOf_28 : decode cX7_diameterOf 28 = .ok (.iinc 3 1, 3) := by decide +kernel
theorem dX7_diameterOf_31 : decode cX7_diameterOf 31 = .ok (.goto (-23), 3) := by decide +kernel
theorem dX7_diameterOf_34 : decode cX7_diameterOf 34 = .ok (.iconst 0, 1) := by decide +kernel
theorem dX7_diameterOf_35 : decode cX7_diameterOf 35 = .ok (.istore_n 3, 1) := by decide +kernel
theorem dX7_diameterOf_36 : decode cX7_diameterOf 36 = .ok (.iconst 0, 1) := by decide +kernel
theorem dX7_diameterOf_37 : decode cX7_diameterOf 37 = .ok (.istore 4, 2) := by decide +kernel
theorem dX7_diameterOf_39 : decode cX7_diameterOf 39 = .ok (.iload 4, 2) := by decide +kernel
theorem dX7_diameterOf_41 : decode cX7_diameterOf 41 = .ok (.aload_n 0, 1) := by decide +kernel
theorem dX7_diameterOf_42 : decode cX7_diameterOf 42 = .ok (.getfield 56, 3) := by decide +kernel
theorem dX7_diameterOf_45 : decode cX7_diameterOf 45 = .ok (.if_icmp .ge 43, 3) := by decide +kernel
theorem dX7_diameterOf_48 : decode cX7_diameterOf 48 = .ok (.aload_n 0, 1) := by decide +kernel
theorem dX7_diameterOf_49 : decode cX7_diameterOf 49 = .ok (.getfield 41, 3) := by decide +kernel
theorem dX7_diameterOf_52 : decode cX7_diameterOf 52 = .ok (.iload 4, 2) := by decide +kernel
theorem dX7_diameterOf_54 : decode cX7_diameterOf 54 = .ok (.iaload, 1) := by decide +kernel
theorem dX7_diameterOf_55 : decode cX7_diameterOf 55 = .ok (.bipush (-9), 2) := by decide +kernel
theorem dX7_diameterOf_57 : decode cX7_diameterOf 57 = .ok (.if_icmp .eq 25, 3) := by decide +kernel
theorem dX7_diameterOf_60 : decode cX7_diameterOf 60 = .ok (.aload_n 0, 1) := by decide +kernel
theorem dX7_diameterOf_61 : decode cX7_diameterOf 61 = .ok (.aload_n 1, 1) := by decide +kernel
theorem dX7_diameterOf_62 : decode cX7_diameterOf 62 = .ok (.iload 4, 2) := by decide +kernel
theorem dX7_diameterOf_64 : decode cX7_diameterOf 64 = .ok (.invokevirtual 76, 3) := by decide +kernel
theorem dX7_diameterOf_67 : decode cX7_diameterOf 67 = .ok (.istore 5, 2) := by decide +kernel
theorem dX7_diameterOf_69 : decode cX7_diameterOf 69 = .ok (.iload 5, 2) := by decide +kernel
theorem dX7_diameterOf_71 : decode cX7_diameterOf 71 = .ok (.iload_n 3, 1) := by decide +kernel
theorem dX7_diameterOf_72 : decode cX7_diameterOf 72 = .ok (.if_icmp .le 8, 3) := by decide +kernel
theorem dX7_diameterOf_75 : decode cX7_diameterOf 75 = .ok (.iload 5, 2) := by decide +kernel
theorem dX7_diameterOf_77 : decode cX7_diameterOf 77 = .ok (.goto 4, 3) := by decide +kernel
theorem dX7_diameterOf_80 : decode cX7_diameterOf 80 = .ok (.iload_n 3, 1) := by decide +kernel
theorem dX7_diameterOf_81 : decode cX7_diameterOf 81 = .ok (.istore_n 3, 1) := by decide +kernel
theorem dX7_diameterOf_82 : decode cX7_diameterOf 82 = .ok (.iinc 4 1, 3) := by decide +kernel
theorem dX7_diameterOf_85 : decode cX7_diameterOf 85 = .ok (.goto (-46), 3) := by decide +kernel
theorem dX7_diameterOf_88 : decode cX7_diameterOf 88 = .ok (.iload_n 3, 1) := by decide +kernel
theorem dX7_diameterOf_89 : decode cX7_diameterOf 89 = .ok (.ireturn, 1) := by decide +kernel
theorem dX7_costOf_0 : decode cX7_costOf 0 = .ok (.aload_n 0, 1) := by decide +kernel
theorem dX7_costOf_1 : decode cX7_costOf 1 = .ok (.aload_n 1, 1) := by decide +kernel
theorem dX7_costOf_2 : decode cX7_costOf 2 = .ok (.iload_n 2, 1) := by decide +kernel
theorem dX7_costOf_3 : decode cX7_costOf 3 = .ok (.invokevirtual 68, 3) := by decide +kernel
theorem dX7_costOf_6 : decode cX7_costOf 6 = .ok (.iconst 0, 1) := by decide +kernel
theorem dX7_costOf_7 : decode cX7_costOf 7 = .ok (.istore_n 3, 1) := by decide +kernel
theorem dX7_costOf_8 : decode cX7_costOf 8 = .ok (.iconst 0, 1) := by decide +kernel
theorem dX7_costOf_9 : decode cX7_costOf 9 = .ok (.istore 4, 2) := by decide +kernel
theorem dX7_costOf_11 : decode cX7_costOf 11 = .ok (.iload 4, 2) := by decide +kernel
theorem dX7_costOf_13 : decode cX7_costOf 13 = .ok (.aload_n 0, 1) := by decide +kernel
theorem dX7_costOf_14 : decode cX7_costOf 14 = .ok (.getfield 56, 3) := by decide +kernel
theorem dX7_costOf_17 : decode cX7_costOf 17 = .ok (.if_icmp .ge 40, 3) := by decide +kernel
theorem dX7_costOf_20 : decode cX7_costOf 20 = .ok (.iload_n 3, 1) := by decide +kernel
theorem dX7_costOf_21 : decode cX7_costOf 21 = .ok (.aload_n 0, 1) := by decide +kernel
theorem dX7_costOf_22 : decode cX7_costOf 22 = .ok (.getfield 35, 3) := by decide +kernel
theorem dX7_costOf_25 : decode cX7_costOf 25 = .ok (.iload 4, 2) := by decide +kernel
theorem dX7_costOf_27 : decode cX7_costOf 27 = .ok (.iaload, 1) := by decide +kernel
theorem dX7_costOf_28 : decode cX7_costOf 28 = .ok (.bipush (-9), 2) := by decide +kernel
theorem dX7_costOf_30 : decode cX7_costOf 30 = .ok (.if_icmp .ne 7, 3) := by decide +kernel
theorem dX7_costOf_33 : decode cX7_costOf 33 = .ok (.iconst 0, 1) := by decide +kernel
theorem dX7_costOf_34 : decode cX7_costOf 34 = .ok (.goto 15, 3) := by decide +kernel
theorem dX7_costOf_37 : decode cX7_costOf 37 = .ok (.aload_n 1, 1) := by decide +kernel
theorem dX7_costOf_38 : decode cX7_costOf 38 = .ok (.iload 4, 2) := by decide +kernel
theorem dX7_costOf_40 : decode cX7_costOf 40 = .ok (.iaload, 1) := by decide +kernel
theorem dX7_costOf_41 : decode cX7_costOf 41 = .ok (.aload_n 0, 1) := by decide +kernel
theorem dX7_costOf_42 : decode cX7_costOf 42 = .ok (.getfield 35, 3) := by decide +kernel
theorem dX7_costOf_45 : decode cX7_costOf 45 = .ok (.iload 4, 2) := by decide +kernel
theorem dX7_costOf_47 : decode cX7_costOf 47 = .ok (.iaload, 1) := by decide +kernel
theorem dX7_costOf_48 : decode cX7_costOf 48 = .ok (.imul, 1) := by decide +kernel
theorem dX7_costOf_49 : decode cX7_costOf 49 = .ok (.iadd, 1) := by decide +kernel
theorem dX7_costOf_50 : decode cX7_costOf 50 = .ok (.istore_n 3, 1) := by decide +kernel
theorem dX7_costOf_51 : decode cX7_costOf 51 = .ok (.iinc 4 1, 3) := by decide +kernel
theorem dX7_costOf_54 : decode cX7_costOf 54 = .ok (.goto (-43), 3) := by decide +kernel
theorem dX7_costOf_57 : decode cX7_costOf 57 = .ok (.iload_n 3, 1) := by decide +kernel
theorem dX7_costOf_58 : decode cX7_costOf 58 = .ok (.ireturn, 1) := by decide +kernel
theorem dX7_leastOf_0 : decode cX7_leastOf 0 = .ok (.aload_n 0, 1) := by decide +kernel
theorem dX7_leastOf_1 : decode cX7_leastOf 1 = .ok (.aload_n 1, 1) := by decide +kernel
theorem dX7_leastOf_2 : decode cX7_leastOf 2 = .ok (.iload_n 2, 1) := by decide +kernel
theorem dX7_leastOf_3 : decode cX7_leastOf 3 = .ok (.invokevirtual 68, 3) := by decide +kernel
theorem dX7_leastOf_6 : decode cX7_leastOf 6 = .ok (.iconst 0, 1) := by decide +kernel
theorem dX7_leastOf_7 : decode cX7_leastOf 7 = .ok (.istore 4, 2) := by decide +kernel
theorem dX7_leastOf_9 : decode cX7_leastOf 9 = .ok (.iload 4, 2) := by decide +kernel
theorem dX7_leastOf_11 : decode cX7_leastOf 11 = .ok (.aload_n 0, 1) := by decide +kernel
theorem dX7_leastOf_12 : decode cX7_leastOf 12 = .ok (.getfield 56, 3) := by decide +kernel
theorem dX7_leastOf_15 : decode cX7_leastOf 15 = .ok (.if_icmp .ge 23, 3) := by decide +kernel
theorem dX7_leastOf_18 : decode cX7_leastOf 18 = .ok (.aload_n 0, 1) := by decide +kernel
theorem dX7_leastOf_19 : decode cX7_leastOf 19 = .ok (.getfield 41, 3) := by decide +kernel
theorem dX7_leastOf_22 : decode cX7_leastOf 22 = .ok (.iload 4, 2) := by decide +kernel
theorem dX7_leastOf_24 : decode cX7_leastOf 24 = .ok (.aload_n 0, 1) := by decide +kernel
theorem dX7_leastOf_25 : decode cX7_leastOf 25 = .ok (.getfield 35, 3) := by decide +kernel
theorem dX7_leastOf_28 : decode cX7_leastOf 28 = .ok (.iload 4, 2) := by decide +kernel
theorem dX7_leastOf_30 : decode cX7_leastOf 30 = .ok (.iaload, 1) := by decide +kernel
theorem dX7_leastOf_31 : decode cX7_leastOf 31 = .ok (.iastore, 1) := by decide +kernel
theorem dX7_leastOf_32 : decode cX7_leastOf 32 = .ok (.iinc 4 1, 3) := by decide +kernel
theorem dX7_leastOf_35 : decode cX7_leastOf 35 = .ok (.goto (-26), 3) := by decide +kernel
theorem dX7_leastOf_38 : decode cX7_leastOf 38 = .ok (.bipush (-9), 2) := by decide +kernel
theorem dX7_leastOf_40 : decode cX7_leastOf 40 = .ok (.istore 4, 2) := by decide +kernel
theorem dX7_leastOf_42 : decode cX7_leastOf 42 = .ok (.iconst 0, 1) := by decide +kernel
theorem dX7_leastOf_43 : decode cX7_leastOf 43 = .ok (.istore 5, 2) := by decide +kernel
theorem dX7_leastOf_45 : decode cX7_leastOf 45 = .ok (.iconst 0, 1) := by decide +kernel
theorem dX7_leastOf_46 : decode cX7_leastOf 46 = .ok (.istore 6, 2) := by decide +kernel
theorem dX7_leastOf_48 : decode cX7_leastOf 48 = .ok (.iload 6, 2) := by decide +kernel
theorem dX7_leastOf_50 : decode cX7_leastOf 50 = .ok (.aload_n 0, 1) := by decide +kernel
theorem dX7_leastOf_51 : decode cX7_leastOf 51 = .ok (.getfield 56, 3) := by decide +kernel
theorem dX7_leastOf_54 : decode cX7_leastOf 54 = .ok (.if_icmp .ge 66, 3) := by decide +kernel
theorem dX7_leastOf_57 : decode cX7_leastOf 57 = .ok (.aload_n 0, 1) := by decide +kernel
theorem dX7_leastOf_58 : decode cX7_leastOf 58 = .ok (.getfield 41, 3) := by decide +kernel
theorem dX7_leastOf_61 : decode cX7_leastOf 61 = .ok (.iload 6, 2) := by decide +kernel
theorem dX7_leastOf_63 : decode cX7_leastOf 63 = .ok (.iaload, 1) := by decide +kernel
theorem dX7_leastOf_64 : decode cX7_leastOf 64 = .ok (.bipush (-9), 2) := by decide +kernel
theorem dX7_leastOf_66 : decode cX7_leastOf 66 = .ok (.if_icmp .eq 48, 3) := by decide +kernel
theorem dX7_leastOf_69 : decode cX7_leastOf 69 = .ok (.iload_n 3, 1) := by decide +kernel
theorem dX7_leastOf_70 : decode cX7_leastOf 70 = .ok (.ifCond .eq 13, 3) := by decide +kernel
theorem dX7_leastOf_73 : decode cX7_leastOf 73 = .ok (.aload_n 0, 1) := by decide +kernel
theorem dX7_leastOf_74 : decode cX7_leastOf 74 = .ok (.aload_n 1, 1) := by decide +kernel
theorem dX7_leastOf_75 : decode cX7_leastOf 75 = .ok (.iload 6, 2) := by decide +kernel
theorem dX7_leastOf_77 : decode cX7_leastOf 77 = .ok (.invokevirtual 80, 3) := by decide +kernel
theorem dX7_leastOf_80 : decode cX7_leastOf 80 = .ok (.goto 10, 3) := by decide +kernel
theorem dX7_leastOf_83 : decode cX7_leastOf 83 = .ok (.aload_n 0, 1) := by decide +kernel
theorem dX7_leastOf_84 : decode cX7_leastOf 84 = .ok (.aload_n 1, 1) := by decide +kernel
theorem dX7_leastOf_85 : decode cX7_leastOf 85 = .ok (.iload 6, 2) := by decide +kernel
theorem dX7_leastOf_87 : decode cX7_leastOf 87 = .ok (.invokevirtual 76, 3) := by decide +kernel
theorem dX7_leastOf_90 : decode cX7_leastOf 90 = .ok (.istore 7, 2) := by decide +kernel
theorem dX7_leastOf_92 : decode cX7_leastOf 92 = .ok (.iload 4, 2) := by decide +kernel
theorem dX7_leastOf_94 : decode cX7_leastOf 94 = .ok (.bipush (-9), 2) := by decide +kernel
theorem dX7_leastOf_96 : decode cX7_leastOf 96 = .ok (.if_icmp .eq 10, 3) := by decide +kernel
theorem dX7_leastOf_99 : decode cX7_leastOf 99 = .ok (.iload 7, 2) := by decide +kernel
theorem dX7_leastOf_101 : decode cX7_leastOf 101 = .ok (.iload 5, 2) := by decide +kernel
theorem dX7_leastOf_103 : decode cX7_leastOf 103 = .ok (.if_icmp .ge 11, 3) := by decide +kernel
theorem dX7_leastOf_106 : decode cX7_leastOf 106 = .ok (.iload 6, 2) := by decide +kernel
theorem dX7_leastOf_108 : decode cX7_leastOf 108 = .ok (.istore 4, 2) := by decide +kernel
theorem dX7_leastOf_110 : decode cX7_leastOf 110 = .ok (.iload 7, 2) := by decide +kernel
theorem dX7_leastOf_112 : decode cX7_leastOf 112 = .ok (.istore 5, 2) := by decide +kernel
theorem dX7_leastOf_114 : decode cX7_leastOf 114 = .ok (.iinc 6 1, 3) := by decide +kernel
theorem dX7_leastOf_117 : decode cX7_leastOf 117 = .ok (.goto (-69), 3) := by decide +kernel
theorem dX7_leastOf_120 : decode cX7_leastOf 120 = .ok (.iload 4, 2) := by decide +kernel
theorem dX7_leastOf_122 : decode cX7_leastOf 122 = .ok (.ireturn, 1) := by decide +kernel
theorem dX7_append_0 : decode cX7_append 0 = .ok (.iload_n 1, 1) := by decide +kernel
theorem dX7_append_1 : decode cX7_append 1 = .ok (.i2l, 1) := by decide +kernel
theorem dX7_append_2 : decode cX7_append 2 = .ok (.lconst 0, 1) := by decide +kernel
theorem dX7_append_3 : decode cX7_append 3 = .ok (.ldc2_w 83, 3) := by decide +kernel
theorem dX7_append_6 : decode cX7_append 6 = .ok (.invokestatic 60, 3) := by decide +kernel
theorem dX7_append_9 : decode cX7_append 9 = .ok (.ifCond .ne 6, 3) := by decide +kernel
theorem dX7_append_12 : decode cX7_append 12 = .ok (.bipush (-2), 2) := by decide +kernel
theorem dX7_append_14 : decode cX7_append 14 = .ok (.ireturn, 1) := by decide +kernel
theorem dX7_append_15 : decode cX7_append 15 = .ok (.aload_n 0, 1) := by decide +kernel
theorem dX7_append_16 : decode cX7_append 16 = .ok (.getfield 85, 3) := by decide +kernel
theorem dX7_append_19 : decode cX7_append 19 = .ok (.bipush 80, 2) := by decide +kernel
theorem dX7_append_21 : decode cX7_append 21 = .ok (.if_icmp .ne 6, 3) := by decide +kernel
theorem dX7_append_24 : decode cX7_append 24 = .ok (.bipush (-4), 2) := by decide +kernel
theorem dX7_append_26 : decode cX7_append 26 = .ok (.ireturn, 1) := by decide +kernel
theorem dX7_append_27 : decode cX7_append 27 = .ok (.aload_n 0, 1) := by decide +kernel
theorem dX7_append_28 : decode cX7_append 28 = .ok (.getfield 7, 3) := by decide +kernel
theorem dX7_append_31 : decode cX7_append 31 = .ok (.aload_n 0, 1) := by decide +kernel
theorem dX7_append_32 : decode cX7_append 32 = .ok (.getfield 85, 3) := by decide +kernel
theorem dX7_append_35 : decode cX7_append 35 = .ok (.iload_n 1, 1) := by decide +kernel
theorem dX7_append_36 : decode cX7_append 36 = .ok (.iastore, 1) := by decide +kernel
theorem dX7_append_37 : decode cX7_append 37 = .ok (.aload_n 0, 1) := by decide +kernel
theorem dX7_append_38 : decode cX7_append 38 = .ok (.dup, 1) := by decide +kernel
theorem dX7_append_39 : decode cX7_append 39 = .ok (.getfield 85, 3) := by decide +kernel
theorem dX7_append_42 : decode cX7_append 42 = .ok (.iconst 1, 1) := by decide +kernel
theorem dX7_append_43 : decode cX7_append 43 = .ok (.iadd, 1) := by decide +kernel
theorem dX7_append_44 : decode cX7_append 44 = .ok (.putfield 85, 3) := by decide +kernel
theorem dX7_append_47 : decode cX7_append 47 = .ok (.aload_n 0, 1) := by decide +kernel
theorem dX7_append_48 : decode cX7_append 48 = .ok (.getfield 85, 3) := by decide +kernel
theorem dX7_append_51 : decode cX7_append 51 = .ok (.ireturn, 1) := by decide +kernel
theorem dX7_clearText_0 : decode cX7_clearText 0 = .ok (.aload_n 0, 1) := by decide +kernel
theorem dX7_clearText_1 : decode cX7_clearText 1 = .ok (.getfield 85, 3) := by decide +kernel
theorem dX7_clearText_4 : decode cX7_clearText 4 = .ok (.istore_n 1, 1) := by decide +kernel
theorem dX7_clearText_5 : decode cX7_clearText 5 = .ok (.aload_n 0, 1) := by decide +kernel
theorem dX7_clearText_6 : decode cX7_clearText 6 = .ok (.iconst 0, 1) := by decide +kernel
theorem dX7_clearText_7 : decode cX7_clearText 7 = .ok (.putfield 85, 3) := by decide +kernel
theorem dX7_clearText_10 : decode cX7_clearText 10 = .ok (.iload_n 1, 1) := by decide +kernel
theorem dX7_clearText_11 : decode cX7_clearText 11 = .ok (.ireturn, 1) := by decide +kernel
theorem dX7_sign_0 : decode cX7_sign 0 = .ok (.aload_n 0, 1) := by decide +kernel
theorem dX7_sign_1 : decode cX7_sign 1 = .ok (.getfield 88, 3) := by decide +kernel
theorem dX7_sign_4 : decode cX7_sign 4 = .ok (.aload_n 0, 1) := by decide +kernel
theorem dX7_sign_5 : decode cX7_sign 5 = .ok (.getfield 85, 3) := by decide +kernel
theorem dX7_sign_8 : decode cX7_sign 8 = .ok (.if_icmp .ge 17, 3) := by decide +kernel
theorem dX7_sign_11 : decode cX7_sign 11 = .ok (.aload_n 0, 1) := by decide +kernel
theorem dX7_sign_12 : decode cX7_sign 12 = .ok (.getfield 7, 3) := by decide +kernel
theorem dX7_sign_15 : decode cX7_sign 15 = .ok (.aload_n 0, 1) := by decide +kernel
theorem dX7_sign_16 : decode cX7_sign 16 = .ok (.getfield 88, 3) := by decide +kernel
theorem dX7_sign_19 : decode cX7_sign 19 = .ok (.iaload, 1) := by decide +kernel
theorem dX7_sign_20 : decode cX7_sign 20 = .ok (.iload_n 1, 1) := by decide +kernel
theorem dX7_sign_21 : decode cX7_sign 21 = .ok (.isub, 1) := by decide +kernel
theorem dX7_sign_22 : decode cX7_sign 22 = .ok (.goto 5, 3) := by decide +kernel
theorem dX7_sign_25 : decode cX7_sign 25 = .ok (.bipush (-9), 2) := by decide +kernel
theorem dX7_sign_27 : decode cX7_sign 27 = .ok (.istore 4, 2) := by decide +kernel
theorem dX7_sign_29 : decode cX7_sign 29 = .ok (.iload 4, 2) := by decide +kernel
theorem dX7_sign_31 : decode cX7_sign 31 = .ok (.i2l, 1) := by decide +kernel
theorem dX7_sign_32 : decode cX7_sign 32 = .ok (.iload_n 2, 1) := by decide +kernel
theorem dX7_sign_33 : decode cX7_sign 33 = .ok (.i2l, 1) := by decide +kernel
theorem dX7_sign_34 : decode cX7_sign 34 = .ok (.iload_n 3, 1) := by decide +kernel
theorem dX7_sign_35 : decode cX7_sign 35 = .ok (.i2l, 1) := by decide +kernel
theorem dX7_sign_36 : decode cX7_sign 36 = .ok (.invokestatic 60, 3) := by decide +kernel
theorem dX7_sign_39 : decode cX7_sign 39 = .ok (.ifCond .ne 6, 3) := by decide +kernel
theorem dX7_sign_42 : decode cX7_sign 42 = .ok (.bipush (-9), 2) := by decide +kernel
theorem dX7_sign_44 : decode cX7_sign 44 = .ok (.ireturn, 1) := by decide +kernel
theorem dX7_sign_45 : decode cX7_sign 45 = .ok (.aload_n 0, 1) := by decide +kernel
theorem dX7_sign_46 : decode cX7_sign 46 = .ok (.dup, 1) := by decide +kernel
theorem dX7_sign_47 : decode cX7_sign 47 = .ok (.getfield 88, 3) := by decide +kernel
theorem dX7_sign_50 : decode cX7_sign 50 = .ok (.iconst 1, 1) := by decide +kernel
theorem dX7_sign_51 : decode cX7_sign 51 = .ok (.iadd, 1) := by decide +kernel
theorem dX7_sign_52 : decode cX7_sign 52 = .ok (.putfield 88, 3) := by decide +kernel
theorem dX7_sign_55 : decode cX7_sign 55 = .ok (.iload 4, 2) := by decide +kernel
theorem dX7_sign_57 : decode cX7_sign 57 = .ok (.ireturn, 1) := by decide +kernel
theorem dX7_number_0 : decode cX7_number 0 = .ok (.aload_n 0, 1) := by decide +kernel
theorem dX7_number_1 : decode cX7_number 1 = .ok (.bipush 48, 2) := by decide +kernel
theorem dX7_number_3 : decode cX7_number 3 = .ok (.iconst 0, 1) := by decide +kernel
theorem dX7_number_4 : decode cX7_number 4 = .ok (.iload_n 2, 1) := by decide +kernel
theorem dX7_number_5 : decode cX7_number 5 = .ok (.bipush 10, 2) := by decide +kernel
theorem dX7_number_7 : decode cX7_number 7 = .ok (.idiv, 1) := by decide +kernel
theorem dX7_number_8 : decode cX7_number 8 = .ok (.invokevirtual 91, 3) := by decide +kernel
theorem dX7_number_11 : decode cX7_number 11 = .ok (.istore_n 3, 1) := by decide +kernel
theorem dX7_number_12 : decode cX7_number 12 = .ok (.iload_n 3, 1) := by decide +kernel
theorem dX7_number_13 : decode cX7_number 13 = .ok (.bipush (-9), 2) := by decide +kernel
theorem dX7_number_15 : decode cX7_number 15 = .ok (.if_icmp .ne 6, 3) := by decide +kernel
theorem dX7_number_18 : decode cX7_number 18 = .ok (.bipush (-9), 2) := by decide +kernel
theorem dX7_number_20 : decode cX7_number 20 = .ok (.ireturn, 1) := by decide +kernel
theorem dX7_number_21 : decode cX7_number 21 = .ok (.aload_n 0, 1) := by decide +kernel
theorem dX7_number_22 : decode cX7_number 22 = .ok (.bipush 48, 2) := by decide +kernel
theorem dX7_number_24 : decode cX7_number 24 = .ok (.iload_n 3, 1) := by decide +kernel
theorem dX7_number_25 : decode cX7_number 25 = .ok (.ifCond .ne 7, 3) := by decide +kernel
theorem dX7_number_28 : decode cX7_number 28 = .ok (.iload_n 1, 1) := by decide +kernel
theorem dX7_number_29 : decode cX7_number 29 = .ok (.goto 4, 3) := by decide +kernel
theorem dX7_number_32 : decode cX7_number 32 = .ok (.iconst 0, 1) := by decide +kernel
theorem dX7_number_33 : decode cX7_number 33 = .ok (.iload_n 3, 1) := by decide +kernel
theorem dX7_number_34 : decode cX7_number 34 = .ok (.iload_n 2, 1) := by decide +kernel
theorem dX7_number_35 : decode cX7_number 35 = .ok (.bipush 10, 2) := by decide +kernel
theorem dX7_number_37 : decode cX7_number 37 = .ok (.idiv, 1) := by decide +kernel
theorem dX7_number_38 : decode cX7_number 38 = .ok (.if_icmp .ne 10, 3) := by decide +kernel
theorem dX7_number_41 : decode cX7_number 41 = .ok (.iload_n 2, 1) := by decide +kernel
theorem dX7_number_42 : decode cX7_number 42 = .ok (.bipush 10, 2) := by decide +kernel
theorem dX7_number_44 : decode cX7_number 44 = .ok (.irem, 1) := by decide +kernel
theorem dX7_number_45 : decode cX7_number 45 = .ok (.goto 5, 3) := by decide +kernel
theorem dX7_number_48 : decode cX7_number 48 = .ok (.bipush 9, 2) := by decide +kernel
theorem dX7_number_50 : decode cX7_number 50 = .ok (.invokevirtual 91, 3) := by decide +kernel
theorem dX7_number_53 : decode cX7_number 53 = .ok (.istore 4, 2) := by decide +kernel
theorem dX7_number_55 : decode cX7_number 55 = .ok (.iload 4, 2) := by decide +kernel
theorem dX7_number_57 : decode cX7_number 57 = .ok (.bipush (-9), 2) := by decide +kernel
theorem dX7_number_59 : decode cX7_number 59 = .ok (.if_icmp .ne 8, 3) := by decide +kernel
theorem dX7_number_62 : decode cX7_number 62 = .ok (.bipush (-9), 2) := by decide +kernel
theorem dX7_number_64 : decode cX7_number 64 = .ok (.goto 10, 3) := by decide +kernel
theorem dX7_number_67 : decode cX7_number 67 = .ok (.bipush 10, 2) := by decide +kernel
theorem dX7_number_69 : decode cX7_number 69 = .ok (.iload_n 3, 1) := by decide +kernel
theorem dX7_number_70 : decode cX7_number 70 = .ok (.imul, 1) := by decide +kernel
theorem dX7_number_71 : decode cX7_number 71 = .ok (.iload 4, 2) := by decide +kernel
theorem dX7_number_73 : decode cX7_number 73 = .ok (.iadd, 1) := by decide +kernel
theorem dX7_number_74 : decode cX7_number 74 = .ok (.ireturn, 1) := by decide +kernel
theorem dX7_readEdge_0 : decode cX7_readEdge 0 = .ok (.aload_n 0, 1) := by decide +kernel
theorem dX7_readEdge_1 : decode cX7_readEdge 1 = .ok (.bipush 97, 2) := by decide +kernel
theorem dX7_readEdge_3 : decode cX7_readEdge 3 = .ok (.iconst 0, 1) := by decide +kernel
theorem dX7_readEdge_4 : decode cX7_readEdge 4 = .ok (.aload_n 0, 1) := by decide +kernel
theorem dX7_readEdge_5 : decode cX7_readEdge 5 = .ok (.getfield 95, 3) := by decide +kernel
theorem dX7_readEdge_8 : decode cX7_readEdge 8 = .ok (.iconst 1, 1) := by decide +kernel
theorem dX7_readEdge_9 : decode cX7_readEdge 9 = .ok (.isub, 1) := by decide +kernel
theorem dX7_readEdge_10 : decode cX7_readEdge 10 = .ok (.invokevirtual 91, 3) := by decide +kernel
theorem dX7_readEdge_13 : decode cX7_readEdge 13 = .ok (.istore_n 1, 1) := by decide +kernel
theorem dX7_readEdge_14 : decode cX7_readEdge 14 = .ok (.iload_n 1, 1) := by decide +kernel
theorem dX7_readEdge_15 : decode cX7_readEdge 15 = .ok (.bipush (-9), 2) := by decide +kernel
theorem dX7_readEdge_17 : decode cX7_readEdge 17 = .ok (.if_icmp .ne 5, 3) := by decide +kernel
theorem dX7_readEdge_20 : decode cX7_readEdge 20 = .ok (.iconst 0, 1) := by decide +kernel
theorem dX7_readEdge_21 : decode cX7_readEdge 21 = .ok (.ireturn, 1) := by decide +kernel
theorem dX7_readEdge_22 : decode cX7_readEdge 22 = .ok (.aload_n 0, 1) := by decide +kernel
theorem dX7_readEdge_23 : decode cX7_readEdge 23 = .ok (.bipush 97, 2) := by decide +kernel
theorem dX7_readEdge_25 : decode cX7_readEdge 25 = .ok (.iconst 0, 1) := by decide +kernel
theorem dX7_readEdge_26 : decode cX7_readEdge 26 = .ok (.aload_n 0, 1) := by decide +kernel
theorem dX7_readEdge_27 : decode cX7_readEdge 27 = .ok (.getfield 95, 3) := by decide +kernel
theorem dX7_readEdge_30 : decode cX7_readEdge 30 = .ok (.iconst 1, 1) := by decide +kernel
theorem dX7_readEdge_31 : decode cX7_readEdge 31 = .ok (.isub, 1) := by decide +kernel
theorem dX7_readEdge_32 : decode cX7_readEdge 32 = .ok (.invokevirtual 91, 3) := by decide +kernel
theorem dX7_readEdge_35 : decode cX7_readEdge 35 = .ok (.istore_n 2, 1) := by decide +kernel
theorem dX7_readEdge_36 : decode cX7_readEdge 36 = .ok (.iload_n 2, 1) := by decide +kernel
theorem dX7_readEdge_37 : decode cX7_readEdge 37 = .ok (.bipush (-9), 2) := by decide +kernel
theorem dX7_readEdge_39 : decode cX7_readEdge 39 = .ok (.if_icmp .ne 5, 3) := by decide +kernel
theorem dX7_readEdge_42 : decode cX7_readEdge 42 = .ok (.iconst 0, 1) := by decide +kernel
theorem dX7_readEdge_43 : decode cX7_readEdge 43 = .ok (.ireturn, 1) := by decide +kernel
theorem dX7_readEdge_44 : decode cX7_readEdge 44 = .ok (.aload_n 0, 1) := by decide +kernel
theorem dX7_readEdge_45 : decode cX7_readEdge 45 = .ok (.aload_n 0, 1) := by decide +kernel
theorem dX7_readEdge_46 : decode cX7_readEdge 46 = .ok (.getfield 19, 3) := by decide +kernel
theorem dX7_readEdge_49 : decode cX7_readEdge 49 = .ok (.iload_n 1, 1) := by decide +kernel
theorem dX7_readEdge_50 : decode cX7_readEdge 50 = .ok (.iload_n 2, 1) := by decide +kernel
theorem dX7_readEdge_51 : decode cX7_readEdge 51 = .ok (.invokevirtual 98, 3) := by decide +kernel
theorem dX7_readEdge_54 : decode cX7_readEdge 54 = .ok (.ifCond .eq 15, 3) := by decide +kernel
theorem dX7_readEdge_57 : decode cX7_readEdge 57 = .ok (.aload_n 0, 1) := by decide +kernel
theorem dX7_readEdge_58 : decode cX7_readEdge 58 = .ok (.dup, 1) := by decide +kernel
theorem dX7_readEdge_59 : decode cX7_readEdge 59 = .ok (.getfield 88, 3) := by decide +kernel
theorem dX7_readEdge_62 : decode cX7_readEdge 62 = .ok (.iconst 1, 1) := by decide +kernel
theorem dX7_readEdge_63 : decode cX7_readEdge 63 = .ok (.isub, 1) := by decide +kernel
theorem dX7_readEdge_64 : decode cX7_readEdge 64 = .ok (.putfield 88, 3) := by decide +kernel
theorem dX7_readEdge_67 : decode cX7_readEdge 67 = .ok (.iconst 0, 1) := by decide +kernel
theorem dX7_readEdge_68 : decode cX7_readEdge 68 = .ok (.ireturn, 1) := by decide +kernel
theorem dX7_readEdge_69 : decode cX7_readEdge 69 = .ok (.aload_n 0, 1) := by decide +kernel
theorem dX7_readEdge_70 : decode cX7_readEdge 70 = .ok (.iconst 1, 1) := by decide +kernel
theorem dX7_readEdge_71 : decode cX7_readEdge 71 = .ok (.bipush 99, 2) := by decide +kernel
theorem dX7_readEdge_73 : decode cX7_readEdge 73 = .ok (.invokevirtual 102, 3) := by decide +kernel
theorem dX7_readEdge_76 : decode cX7_readEdge 76 = .ok (.istore_n 3, 1) := by decide +kernel
theorem dX7_readEdge_77 : decode cX7_readEdge 77 = .ok (.iload_n 3, 1) := by decide +kernel
theorem dX7_readEdge_78 : decode cX7_readEdge 78 = .ok (.bipush (-9), 2) := by decide +kernel
theorem dX7_readEdge_80 : decode cX7_readEdge 80 = .ok (.if_icmp .ne 5, 3) := by decide +kernel
theorem dX7_readEdge_83 : decode cX7_readEdge 83 = .ok (.iconst 0, 1) := by decide +kernel
theorem dX7_readEdge_84 : decode cX7_readEdge 84 = .ok (.ireturn, 1) := by decide +kernel
theorem dX7_readEdge_85 : decode cX7_readEdge 85 = .ok (.aload_n 0, 1) := by decide +kernel
theorem dX7_readEdge_86 : decode cX7_readEdge 86 = .ok (.getfield 19, 3) := by decide +kernel
theorem dX7_readEdge_89 : decode cX7_readEdge 89 = .ok (.iload_n 1, 1) := by decide +kernel
theorem dX7_readEdge_90 : decode cX7_readEdge 90 = .ok (.iload_n 2, 1) := by decide +kernel
theorem dX7_readEdge_91 : decode cX7_readEdge 91 = .ok (.iload_n 3, 1) := by decide +kernel
theorem dX7_readEdge_92 : decode cX7_readEdge 92 = .ok (.invokestatic 105, 3) := by decide +kernel
theorem dX7_readEdge_95 : decode cX7_readEdge 95 = .ok (.iconst 1, 1) := by decide +kernel
theorem dX7_readEdge_96 : decode cX7_readEdge 96 = .ok (.ireturn, 1) := by decide +kernel
theorem dX7_readText_0 : decode cX7_readText 0 = .ok (.iconst 0, 1) := by decide +kernel
theorem dX7_readText_1 : decode cX7_readText 1 = .ok (.istore_n 1, 1) := by decide +kernel
theorem dX7_readText_2 : decode cX7_readText 2 = .ok (.iload_n 1, 1) := by decide +kernel
theorem dX7_readText_3 : decode cX7_readText 3 = .ok (.sipush 156, 3) := by decide +kernel
theorem dX7_readText_6 : decode cX7_readText 6 = .ok (.if_icmp .ge 16, 3) := by decide +kernel
theorem dX7_readText_9 : decode cX7_readText 9 = .ok (.aload_n 0, 1) := by decide +kernel
theorem dX7_readText_10 : decode cX7_readText 10 = .ok (.getfield 19, 3) := by decide +kernel
theorem dX7_readText_13 : decode cX7_readText 13 = .ok (.iload_n 1, 1) := by decide +kernel
theorem dX7_readText_14 : decode cX7_readText 14 = .ok (.iconst 0, 1) := by decide +kernel
theorem dX7_readText_15 : decode cX7_readText 15 = .ok (.iastore, 1) := by decide +kernel
theorem dX7_readText_16 : decode cX7_readText 16 = .ok (.iinc 1 1, 3) := by decide +kernel
theorem dX7_readText_19 : decode cX7_readText 19 = .ok (.goto (-17), 3) := by decide +kernel
theorem dX7_readText_22 : decode cX7_readText 22 = .ok (.aload_n 0, 1) := by decide +kernel
theorem dX7_readText_23 : decode cX7_readText 23 = .ok (.iconst 0, 1) := by decide +kernel
theorem dX7_readText_24 : decode cX7_readText 24 = .ok (.putfield 88, 3) := by decide +kernel
theorem dX7_readText_27 : decode cX7_readText 27 = .ok (.aload_n 0, 1) := by decide +kernel
theorem dX7_readText_28 : decode cX7_readText 28 = .ok (.getfield 85, 3) := by decide +kernel
theorem dX7_readText_31 : decode cX7_readText 31 = .ok (.ifCond .eq 14, 3) := by decide +kernel
theorem dX7_readText_34 : decode cX7_readText 34 = .ok (.aload_n 0, 1) := by decide +kernel
theorem dX7_readText_35 : decode cX7_readText 35 = .ok (.getfield 7, 3) := by decide +kernel
theorem dX7_readText_38 : decode cX7_readText 38 = .ok (.iconst 0, 1) := by decide +kernel
theorem dX7_readText_39 : decode cX7_readText 39 = .ok (.iaload, 1) := by decide +kernel
theorem dX7_readText_40 : decode cX7_readText 40 = .ok (.bipush 70, 2) := by decide +kernel
theorem dX7_readText_42 : decode cX7_readText 42 = .ok (.if_icmp .eq 5, 3) := by decide +kernel
theorem dX7_readText_45 : decode cX7_readText 45 = .ok (.iconst 0, 1) := by decide +kernel
theorem dX7_readText_46 : decode cX7_readText 46 = .ok (.ireturn, 1) := by decide +kernel
theorem dX7_readText_47 : decode cX7_readText 47 = .ok (.aload_n 0, 1) := by decide +kernel
theorem dX7_readText_48 : decode cX7_readText 48 = .ok (.iconst 1, 1) := by decide +kernel
theorem dX7_readText_49 : decode cX7_readText 49 = .ok (.putfield 88, 3) := by decide +kernel
theorem dX7_readText_52 : decode cX7_readText 52 = .ok (.aload_n 0, 1) := by decide +kernel
theorem dX7_readText_53 : decode cX7_readText 53 = .ok (.aload_n 0, 1) := by decide +kernel
theorem dX7_readText_54 : decode cX7_readText 54 = .ok (.iconst 1, 1) := by decide +kernel
theorem dX7_readText_55 : decode cX7_readText 55 = .ok (.bipush 12, 2) := by decide +kernel
theorem dX7_readText_57 : decode cX7_readText 57 = .ok (.invokevirtual 102, 3) := by decide +kernel
theorem dX7_readText_60 : decode cX7_readText 60 = .ok (.putfield 95, 3) := by decide +kernel
theorem dX7_readText_63 : decode cX7_readText 63 = .ok (.aload_n 0, 1) := by decide +kernel
theorem dX7_readText_64 : decode cX7_readText 64 = .ok (.getfield 95, 3) := by decide +kernel
theorem dX7_readText_67 : decode cX7_readText 67 = .ok (.bipush (-9), 2) := by decide +kernel
theorem dX7_readText_69 : decode cX7_readText 69 = .ok (.if_icmp .ne 8, 3) := by decide +kernel
theorem dX7_readText_72 : decode cX7_readText 72 = .ok (.aload_n 0, 1) := by decide +kernel
theorem dX7_readText_73 : decode cX7_readText 73 = .ok (.getfield 88, 3) := by decide +kernel
theorem dX7_readText_76 : decode cX7_readText 76 = .ok (.ireturn, 1) := by decide +kernel
theorem dX7_readText_77 : decode cX7_readText 77 = .ok (.iconst 0, 1) := by decide +kernel
theorem dX7_readText_78 : decode cX7_readText 78 = .ok (.istore_n 1, 1) := by decide +kernel
theorem dX7_readText_79 : decode cX7_readText 79 = .ok (.iload_n 1, 1) := by decide +kernel
theorem dX7_readText_80 : decode cX7_readText 80 = .ok (.aload_n 0, 1) := by decide +kernel
theorem dX7_readText_81 : decode cX7_readText 81 = .ok (.getfield 95, 3) := by decide +kernel
theorem dX7_readText_84 : decode cX7_readText 84 = .ok (.if_icmp .ge 38, 3) := by decide +kernel
theorem dX7_readText_87 : decode cX7_readText 87 = .ok (.aload_n 0, 1) := by decide +kernel
theorem dX7_readText_88 : decode cX7_readText 88 = .ok (.getfield 19, 3) := by decide +kernel
theorem dX7_readText_91 : decode cX7_readText 91 = .ok (.iload_n 1, 1) := by decide +kernel
theorem dX7_readText_92 : decode cX7_readText 92 = .ok (.aload_n 0, 1) := by decide +kernel
theorem dX7_readText_93 : decode cX7_readText 93 = .ok (.iconst 0, 1) := by decide +kernel
theorem dX7_readText_94 : decode cX7_readText 94 = .ok (.bipush 99, 2) := by decide +kernel
theorem dX7_readText_96 : decode cX7_readText 96 = .ok (.invokevirtual 102, 3) := by decide +kernel
theorem dX7_readText_99 : decode cX7_readText 99 = .ok (.iastore, 1) := by decide +kernel
theorem dX7_readText_100 : decode cX7_readText 100 = .ok (.aload_n 0, 1) := by decide +kernel
theorem dX7_readText_101 : decode cX7_readText 101 = .ok (.getfield 19, 3) := by decide +kernel
theorem dX7_readText_104 : decode cX7_readText 104 = .ok (.iload_n 1, 1) := by decide +kernel
theorem dX7_readText_105 : decode cX7_readText 105 = .ok (.iaload, 1) := by decide +kernel
theorem dX7_readText_106 : decode cX7_readText 106 = .ok (.bipush (-9), 2) := by decide +kernel
theorem dX7_readText_108 : decode cX7_readText 108 = .ok (.if_icmp .ne 8, 3) := by decide +kernel
theorem dX7_readText_111 : decode cX7_readText 111 = .ok (.aload_n 0, 1) := by decide +kernel
theorem dX7_readText_112 : decode cX7_readText 112 = .ok (.getfield 88, 3) := by decide +kernel
theorem dX7_readText_115 : decode cX7_readText 115 = .ok (.ireturn, 1) := by decide +kernel
theorem dX7_readText_116 : decode cX7_readText 116 = .ok (.iinc 1 1, 3) := by decide +kernel
theorem dX7_readText_119 : decode cX7_readText 119 = .ok (.goto (-40), 3) := by decide +kernel
theorem dX7_readText_122 : decode cX7_readText 122 = .ok (.aload_n 0, 1) := by decide +kernel
theorem dX7_readText_123 : decode cX7_readText 123 = .ok (.getfield 88, 3) := by decide +kernel
theorem dX7_readText_126 : decode cX7_readText 126 = .ok (.aload_n 0, 1) := by decide +kernel
theorem dX7_readText_127 : decode cX7_readText 127 = .ok (.getfield 85, 3) := by decide +kernel
theorem dX7_readText_130 : decode cX7_readText 130 = .ok (.if_icmp .ge 15, 3) := by decide +kernel
theorem dX7_readText_133 : decode cX7_readText 133 = .ok (.aload_n 0, 1) := by decide +kernel
theorem dX7_readText_134 : decode cX7_readText 134 = .ok (.invokevirtual 109, 3) := by decide +kernel
theorem dX7_readText_137 : decode cX7_readText 137 = .ok (.ifCond .ne (-15), 3) := by decide +kernel
theorem dX7_readText_140 : decode cX7_readText 140 = .ok (.aload_n 0, 1) := by decide +kernel
theorem dX7_readText_141 : decode cX7_readText 141 = .ok (.getfield 88, 3) := by decide +kernel
theorem dX7_readText_144 : decode cX7_readText 144 = .ok (.ireturn, 1) := by decide +kernel
theorem dX7_readText_145 : decode cX7_readText 145 = .ok (.bipush (-9), 2) := by decide +kernel
theorem dX7_readText_147 : decode cX7_readText 147 = .ok (.ireturn, 1) := by decide +kernel
theorem dX7_errorPosition_0 : decode cX7_errorPosition 0 = .ok (.aload_n 0, 1) := by decide +kernel
theorem dX7_errorPosition_1 : decode cX7_errorPosition 1 = .ok (.invokevirtual 113, 3) := by decide +kernel
theorem dX7_errorPosition_4 : decode cX7_errorPosition 4 = .ok (.ireturn, 1) := by decide +kernel
theorem dX7_load_0 : decode cX7_load 0 = .ok (.aload_n 0, 1) := by decide +kernel
theorem dX7_load_1 : decode cX7_load 1 = .ok (.invokevirtual 113, 3) := by decide +kernel
theorem dX7_load_4 : decode cX7_load 4 = .ok (.bipush (-9), 2) := by decide +kernel
theorem dX7_load_6 : decode cX7_load 6 = .ok (.if_icmp .eq 6, 3) := by decide +kernel
theorem dX7_load_9 : decode cX7_load 9 = .ok (.bipush (-3), 2) := by decide +kernel
theorem dX7_load_11 : decode cX7_load 11 = .ok (.ireturn, 1) := by decide +kernel
theorem dX7_load_12 : decode cX7_load 12 = .ok (.aload_n 0, 1) := by decide +kernel
theorem dX7_load_13 : decode cX7_load 13 = .ok (.getfield 19, 3) := by decide +kernel
theorem dX7_load_16 : decode cX7_load 16 = .ok (.aload_n 0, 1) := by decide +kernel
theorem dX7_load_17 : decode cX7_load 17 = .ok (.getfield 13, 3) := by decide +kernel
theorem dX7_load_20 : decode cX7_load 20 = .ok (.invokestatic 117, 3) := by decide +kernel
theorem dX7_load_23 : decode cX7_load 23 = .ok (.aload_n 0, 1) := by decide +kernel
theorem dX7_load_24 : decode cX7_load 24 = .ok (.aload_n 0, 1) := by decide +kernel
theorem dX7_load_25 : decode cX7_load 25 = .ok (.getfield 95, 3) := by decide +kernel
theorem dX7_load_28 : decode cX7_load 28 = .ok (.putfield 56, 3) := by decide +kernel
theorem dX7_load_31 : decode cX7_load 31 = .ok (.aload_n 0, 1) := by decide +kernel
theorem dX7_load_32 : decode cX7_load 32 = .ok (.iconst 0, 1) := by decide +kernel
theorem dX7_load_33 : decode cX7_load 33 = .ok (.putfield 121, 3) := by decide +kernel
theorem dX7_load_36 : decode cX7_load 36 = .ok (.aload_n 0, 1) := by decide +kernel
theorem dX7_load_37 : decode cX7_load 37 = .ok (.getfield 28, 3) := by decide +kernel
theorem dX7_load_40 : decode cX7_load 40 = .ok (.iconst 0, 1) := by decide +kernel
theorem dX7_load_41 : decode cX7_load 41 = .ok (.iconst 0, 1) := by decide +kernel
theorem dX7_load_42 : decode cX7_load 42 = .ok (.bastore, 1) := by decide +kernel
theorem dX7_load_43 : decode cX7_load 43 = .ok (.aload_n 0, 1) := by decide +kernel
theorem dX7_load_44 : decode cX7_load 44 = .ok (.getfield 28, 3) := by decide +kernel
theorem dX7_load_47 : decode cX7_load 47 = .ok (.iconst 1, 1) := by decide +kernel
theorem dX7_load_48 : decode cX7_load 48 = .ok (.iconst 0, 1) := by decide +kernel
theorem dX7_load_49 : decode cX7_load 49 = .ok (.bastore, 1) := by decide +kernel
theorem dX7_load_50 : decode cX7_load 50 = .ok (.aload_n 0, 1) := by decide +kernel
theorem dX7_load_51 : decode cX7_load 51 = .ok (.getfield 13, 3) := by decide +kernel
theorem dX7_load_54 : decode cX7_load 54 = .ok (.invokestatic 124, 3) := by decide +kernel
theorem dX7_load_57 : decode cX7_load 57 = .ok (.ireturn, 1) := by decide +kernel
theorem dX7_vertexWeight_0 : decode cX7_vertexWeight 0 = .ok (.aload_n 0, 1) := by decide +kernel
theorem dX7_vertexWeight_1 : decode cX7_vertexWeight 1 = .ok (.iload_n 1, 1) := by decide +kernel
theorem dX7_vertexWeight_2 : decode cX7_vertexWeight 2 = .ok (.invokevirtual 128, 3) := by decide +kernel
theorem dX7_vertexWeight_5 : decode cX7_vertexWeight 5 = .ok (.ifCond .eq 12, 3) := by decide +kernel
theorem dX7_vertexWeight_8 : decode cX7_vertexWeight 8 = .ok (.aload_n 0, 1) := by decide +kernel
theorem dX7_vertexWeight_9 : decode cX7_vertexWeight 9 = .ok (.getfield 13, 3) := by decide +kernel
theorem dX7_vertexWeight_12 : decode cX7_vertexWeight 12 = .ok (.iload_n 1, 1) := by decide +kernel
theorem dX7_vertexWeight_13 : decode cX7_vertexWeight 13 = .ok (.iaload, 1) := by decide +kernel
theorem dX7_vertexWeight_14 : decode cX7_vertexWeight 14 = .ok (.goto 4, 3) := by decide +kernel
theorem dX7_vertexWeight_17 : decode cX7_vertexWeight 17 = .ok (.iconst (-1), 1) := by decide +kernel
theorem dX7_vertexWeight_18 : decode cX7_vertexWeight 18 = .ok (.ireturn, 1) := by decide +kernel
theorem dX7_edgeWeight_0 : decode cX7_edgeWeight 0 = .ok (.aload_n 0, 1) := by decide +kernel
theorem dX7_edgeWeight_1 : decode cX7_edgeWeight 1 = .ok (.iload_n 1, 1) := by decide +kernel
theorem dX7_edgeWeight_2 : decode cX7_edgeWeight 2 = .ok (.invokevirtual 128, 3) := by decide +kernel
theorem dX7_edgeWeight_5 : decode cX7_edgeWeight 5 = .ok (.ifCond .eq 11, 3) := by decide +kernel
theorem dX7_edgeWeight_8 : decode cX7_edgeWeight 8 = .ok (.aload_n 0, 1) := by decide +kernel
theorem dX7_edgeWeight_9 : decode cX7_edgeWeight 9 = .ok (.iload_n 2, 1) := by decide +kernel
theorem dX7_edgeWeight_10 : decode cX7_edgeWeight 10 = .ok (.invokevirtual 128, 3) := by decide +kernel
theorem dX7_edgeWeight_13 : decode cX7_edgeWeight 13 = .ok (.ifCond .ne 5, 3) := by decide +kernel
theorem dX7_edgeWeight_16 : decode cX7_edgeWeight 16 = .ok (.iconst (-1), 1) := by decide +kernel
theorem dX7_edgeWeight_17 : decode cX7_edgeWeight 17 = .ok (.ireturn, 1) := by decide +kernel
theorem dX7_edgeWeight_18 : decode cX7_edgeWeight 18 = .ok (.aload_n 0, 1) := by decide +kernel
theorem dX7_edgeWeight_19 : decode cX7_edgeWeight 19 = .ok (.getfield 13, 3) := by decide +kernel
theorem dX7_edgeWeight_22 : decode cX7_edgeWeight 22 = .ok (.iload_n 1, 1) := by decide +kernel
theorem dX7_edgeWeight_23 : decode cX7_edgeWeight 23 = .ok (.iload_n 2, 1) := by decide +kernel
theorem dX7_edgeWeight_24 : decode cX7_edgeWeight 24 = .ok (.invokestatic 64, 3) := by decide +kernel
theorem dX7_edgeWeight_27 : decode cX7_edgeWeight 27 = .ok (.iaload, 1) := by decide +kernel
theorem dX7_edgeWeight_28 : decode cX7_edgeWeight 28 = .ok (.ifCond .le 16, 3) := by decide +kernel
theorem dX7_edgeWeight_31 : decode cX7_edgeWeight 31 = .ok (.aload_n 0, 1) := by decide +kernel
theorem dX7_edgeWeight_32 : decode cX7_edgeWeight 32 = .ok (.getfield 13, 3) := by decide +kernel
theorem dX7_edgeWeight_35 : decode cX7_edgeWeight 35 = .ok (.iload_n 1, 1) := by decide +kernel
theorem dX7_edgeWeight_36 : decode cX7_edgeWeight 36 = .ok (.iload_n 2, 1) := by decide +kernel
theorem dX7_edgeWeight_37 : decode cX7_edgeWeight 37 = .ok (.invokestatic 64, 3) := by decide +kernel
theorem dX7_edgeWeight_40 : decode cX7_edgeWeight 40 = .ok (.iaload, 1) := by decide +kernel
theorem dX7_edgeWeight_41 : decode cX7_edgeWeight 41 = .ok (.goto 5, 3) := by decide +kernel
theorem dX7_edgeWeight_44 : decode cX7_edgeWeight 44 = .ok (.bipush (-9), 2) := by decide +kernel
theorem dX7_edgeWeight_46 : decode cX7_edgeWeight 46 = .ok (.ireturn, 1) := by decide +kernel
theorem dX7_treeOf_0 : decode cX7_treeOf 0 = .ok (.aload_n 0, 1) := by decide +kernel
theorem dX7_treeOf_1 : decode cX7_treeOf 1 = .ok (.iload_n 1, 1) := by decide +kernel
theorem dX7_treeOf_2 : decode cX7_treeOf 2 = .ok (.invokevirtual 128, 3) := by decide +kernel
theorem dX7_treeOf_5 : decode cX7_treeOf 5 = .ok (.ifCond .ne 5, 3) := by decide +kernel
theorem dX7_treeOf_8 : decode cX7_treeOf 8 = .ok (.iconst (-1), 1) := by decide +kernel
theorem dX7_treeOf_9 : decode cX7_treeOf 9 = .ok (.ireturn, 1) := by decide +kernel
theorem dX7_treeOf_10 : decode cX7_treeOf 10 = .ok (.aload_n 0, 1) := by decide +kernel
theorem dX7_treeOf_11 : decode cX7_treeOf 11 = .ok (.aload_n 0, 1) := by decide +kernel
theorem dX7_treeOf_12 : decode cX7_treeOf 12 = .ok (.getfield 13, 3) := by decide +kernel
theorem dX7_treeOf_15 : decode cX7_treeOf 15 = .ok (.iload_n 1, 1) := by decide +kernel
theorem dX7_treeOf_16 : decode cX7_treeOf 16 = .ok (.invokevirtual 68, 3) := by decide +kernel
theorem dX7_treeOf_19 : decode cX7_treeOf 19 = .ok (.iconst 0, 1) := by decide +kernel
theorem dX7_treeOf_20 : decode cX7_treeOf 20 = .ok (.istore_n 2, 1) := by decide +kernel
theorem dX7_treeOf_21 : decode cX7_treeOf 21 = .ok (.aload_n 0, 1) := by decide +kernel
theorem dX7_treeOf_22 : decode cX7_treeOf 22 = .ok (.getfield 35, 3) := by decide +kernel
theorem dX7_treeOf_25 : decode cX7_treeOf 25 = .ok (.iload_n 2, 1) := by decide +kernel
theorem dX7_treeOf_26 : decode cX7_treeOf 26 = .ok (.iaload, 1) := by decide +kernel
theorem dX7_treeOf_27 : decode cX7_treeOf 27 = .ok (.bipush (-9), 2) := by decide +kernel
theorem dX7_treeOf_29 : decode cX7_treeOf 29 = .ok (.if_icmp .ne 9, 3) := by decide +kernel
theorem dX7_treeOf_32 : decode cX7_treeOf 32 = .ok (.iinc 2 1, 3) := by decide +kernel
theorem dX7_treeOf_35 : decode cX7_treeOf 35 = .ok (.goto (-14), 3) := by decide +kernel
theorem dX7_treeOf_38 : decode cX7_treeOf 38 = .ok (.iload_n 2, 1) := by decide +kernel
theorem dX7_treeOf_39 : decode cX7_treeOf 39 = .ok (.ireturn, 1) := by decide +kernel
theorem dX7_note_0 : decode cX7_note 0 = .ok (.iconst 0, 1) := by decide +kernel
theorem dX7_note_1 : decode cX7_note 1 = .ok (.istore_n 1, 1) := by decide +kernel
theorem dX7_note_2 : decode cX7_note 2 = .ok (.iload_n 1, 1) := by decide +kernel
theorem dX7_note_3 : decode cX7_note 3 = .ok (.sipush 156, 3) := by decide +kernel
theorem dX7_note_6 : decode cX7_note 6 = .ok (.if_icmp .ge 30, 3) := by decide +kernel
theorem dX7_note_9 : decode cX7_note 9 = .ok (.aload_n 0, 1) := by decide +kernel
theorem dX7_note_10 : decode cX7_note 10 = .ok (.getfield 22, 3) := by decide +kernel
theorem dX7_note_13 : decode cX7_note 13 = .ok (.sipush 156, 3) := by decide +kernel
theorem dX7_note_16 : decode cX7_note 16 = .ok (.aload_n 0, 1) := by decide +kernel
theorem dX7_note_17 : decode cX7_note 17 = .ok (.getfield 132, 3) := by decide +kernel
theorem dX7_note_20 : decode cX7_note 20 = .ok (.imul, 1) := by decide +kernel
theorem dX7_note_21 : decode cX7_note 21 = .ok (.iload_n 1, 1) := by decide +kernel
theorem dX7_note_22 : decode cX7_note 22 = .ok (.iadd, 1) := by decide +kernel
theorem dX7_note_23 : decode cX7_note 23 = .ok (.aload_n 0, 1) := by decide +kernel
theorem dX7_note_24 : decode cX7_note 24 = .ok (.getfield 13, 3) := by decide +kernel
theorem dX7_note_27 : decode cX7_note 27 = .ok (.iload_n 1, 1) := by decide +kernel
theorem dX7_note_28 : decode cX7_note 28 = .ok (.iaload, 1) := by decide +kernel
theorem dX7_note_29 : decode cX7_note 29 = .ok (.iastore, 1) := by decide +kernel
theorem dX7_note_30 : decode cX7_note 30 = .ok (.iinc 1 1, 3) := by decide +kernel
theorem dX7_note_33 : decode cX7_note 33 = .ok (.goto (-31), 3) := by decide +kernel
theorem dX7_note_36 : decode cX7_note 36 = .ok (.aload_n 0, 1) := by decide +kernel
theorem dX7_note_37 : decode cX7_note 37 = .ok (.aload_n 0, 1) := by decide +kernel
theorem dX7_note_38 : decode cX7_note 38 = .ok (.getfield 132, 3) := by decide +kernel
theorem dX7_note_41 : decode cX7_note 41 = .ok (.iconst 1, 1) := by decide +kernel
theorem dX7_note_42 : decode cX7_note 42 = .ok (.iadd, 1) := by decide +kernel
theorem dX7_note_43 : decode cX7_note 43 = .ok (.bipush 14, 2) := by decide +kernel
theorem dX7_note_45 : decode cX7_note 45 = .ok (.irem, 1) := by decide +kernel
theorem dX7_note_46 : decode cX7_note 46 = .ok (.putfield 132, 3) := by decide +kernel
theorem dX7_note_49 : decode cX7_note 49 = .ok (.aload_n 0, 1) := by decide +kernel
theorem dX7_note_50 : decode cX7_note 50 = .ok (.aload_n 0, 1) := by decide +kernel
theorem dX7_note_51 : decode cX7_note 51 = .ok (.getfield 121, 3) := by decide +kernel
theorem dX7_note_54 : decode cX7_note 54 = .ok (.bipush 14, 2) := by decide +kernel
theorem dX7_note_56 : decode cX7_note 56 = .ok (.if_icmp .ge 12, 3) := by decide +kernel
theorem dX7_note_59 : decode cX7_note 59 = .ok (.aload_n 0, 1) := by decide +kernel
theorem dX7_note_60 : decode cX7_note 60 = .ok (.getfield 121, 3) := by decide +kernel
theorem dX7_note_63 : decode cX7_note 63 = .ok (.iconst 1, 1) := by decide +kernel
theorem dX7_note_64 : decode cX7_note 64 = .ok (.iadd, 1) := by decide +kernel
theorem dX7_note_65 : decode cX7_note 65 = .ok (.goto 5, 3) := by decide +kernel
theorem dX7_note_68 : decode cX7_note 68 = .ok (.bipush 14, 2) := by decide +kernel
theorem dX7_note_70 : decode cX7_note 70 = .ok (.putfield 121, 3) := by decide +kernel
theorem dX7_note_73 : decode cX7_note 73 = .ok (.return_, 1) := by decide +kernel
theorem dX7_linkError_0 : decode cX7_linkError 0 = .ok (.aload_n 0, 1) := by decide +kernel
theorem dX7_linkError_1 : decode cX7_linkError 1 = .ok (.iload_n 2, 1) := by decide +kernel
theorem dX7_linkError_2 : decode cX7_linkError 2 = .ok (.invokevirtual 128, 3) := by decide +kernel
theorem dX7_linkError_5 : decode cX7_linkError 5 = .ok (.ifCond .eq 11, 3) := by decide +kernel
theorem dX7_linkError_8 : decode cX7_linkError 8 = .ok (.aload_n 0, 1) := by decide +kernel
theorem dX7_linkError_9 : decode cX7_linkError 9 = .ok (.iload_n 3, 1) := by decide +kernel
theorem dX7_linkError_10 : decode cX7_linkError 10 = .ok (.invokevirtual 128, 3) := by decide +kernel
theorem dX7_linkError_13 : decode cX7_linkError 13 = .ok (.ifCond .ne 5, 3) := by decide +kernel
theorem dX7_linkError_16 : decode cX7_linkError 16 = .ok (.iconst (-1), 1) := by decide +kernel
theorem dX7_linkError_17 : decode cX7_linkError 17 = .ok (.ireturn, 1) := by decide +kernel
theorem dX7_linkError_18 : decode cX7_linkError 18 = .ok (.iload 4, 2) := by decide +kernel
theorem dX7_linkError_20 : decode cX7_linkError 20 = .ok (.i2l, 1) := by decide +kernel
theorem dX7_linkError_21 : decode cX7_linkError 21 = .ok (.lconst 1, 1) := by decide +kernel
theorem dX7_linkError_22 : decode cX7_linkError 22 = .ok (.ldc2_w 135, 3) := by decide +kernel
theorem dX7_linkError_25 : decode cX7_linkError 25 = .ok (.invokestatic 60, 3) := by decide +kernel
theorem dX7_linkError_28 : decode cX7_linkError 28 = .ok (.ifCond .ne 6, 3) := by decide +kernel
theorem dX7_linkError_31 : decode cX7_linkError 31 = .ok (.bipush (-2), 2) := by decide +kernel
theorem dX7_linkError_33 : decode cX7_linkError 33 = .ok (.ireturn, 1) := by decide +kernel
theorem dX7_linkError_34 : decode cX7_linkError 34 = .ok (.aload_n 0, 1) := by decide +kernel
theorem dX7_linkError_35 : decode cX7_linkError 35 = .ok (.aload_n 1, 1) := by decide +kernel
theorem dX7_linkError_36 : decode cX7_linkError 36 = .ok (.iload_n 2, 1) := by decide +kernel
theorem dX7_linkError_37 : decode cX7_linkError 37 = .ok (.iload_n 3, 1) := by decide +kernel
theorem dX7_linkError_38 : decode cX7_linkError 38 = .ok (.invokevirtual 98, 3) := by decide +kernel
theorem dX7_linkError_41 : decode cX7_linkError 41 = .ok (.ifCond .eq 8, 3) := by decide +kernel
theorem dX7_linkError_44 : decode cX7_linkError 44 = .ok (.bipush (-3), 2) := by decide +kernel
theorem dX7_linkError_46 : decode cX7_linkError 46 = .ok (.goto 4, 3) := by decide +kernel
theorem dX7_linkError_49 : decode cX7_linkError 49 = .ok (.iconst 0, 1) := by decide +kernel
theorem dX7_linkError_50 : decode cX7_linkError 50 = .ok (.ireturn, 1) := by decide +kernel
theorem dX7_link_0 : decode cX7_link 0 = .ok (.aload_n 0, 1) := by decide +kernel
theorem dX7_link_1 : decode cX7_link 1 = .ok (.aload_n 0, 1) := by decide +kernel
theorem dX7_link_2 : decode cX7_link 2 = .ok (.getfield 13, 3) := by decide +kernel
theorem dX7_link_5 : decode cX7_link 5 = .ok (.iload_n 1, 1) := by decide +kernel
theorem dX7_link_6 : decode cX7_link 6 = .ok (.iload_n 2, 1) := by decide +kernel
theorem dX7_link_7 : decode cX7_link 7 = .ok (.iload_n 3, 1) := by decide +kernel
theorem dX7_link_8 : decode cX7_link 8 = .ok (.invokevirtual 137, 3) := by decide +kernel
theorem dX7_link_11 : decode cX7_link 11 = .ok (.istore 4, 2) := by decide +kernel
theorem dX7_link_13 : decode cX7_link 13 = .ok (.iload 4, 2) := by decide +kernel
theorem dX7_link_15 : decode cX7_link 15 = .ok (.ifCond .eq 6, 3) := by decide +kernel
theorem dX7_link_18 : decode cX7_link 18 = .ok (.iload 4, 2) := by decide +kernel
theorem dX7_link_20 : decode cX7_link 20 = .ok (.ireturn, 1) := by decide +kernel
theorem dX7_link_21 : decode cX7_link 21 = .ok (.aload_n 0, 1) := by decide +kernel
theorem dX7_link_22 : decode cX7_link 22 = .ok (.invokevirtual 141, 3) := by decide +kernel
theorem dX7_link_25 : decode cX7_link 25 = .ok (.aload_n 0, 1) := by decide +kernel
theorem dX7_link_26 : decode cX7_link 26 = .ok (.getfield 13, 3) := by decide +kernel
theorem dX7_link_29 : decode cX7_link 29 = .ok (.iload_n 1, 1) := by decide +kernel
theorem dX7_link_30 : decode cX7_link 30 = .ok (.iload_n 2, 1) := by decide +kernel
theorem dX7_link_31 : decode cX7_link 31 = .ok (.iload_n 3, 1) := by decide +kernel
theorem dX7_link_32 : decode cX7_link 32 = .ok (.invokestatic 105, 3) := by decide +kernel
theorem dX7_link_35 : decode cX7_link 35 = .ok (.aload_n 0, 1) := by decide +kernel
theorem dX7_link_36 : decode cX7_link 36 = .ok (.getfield 13, 3) := by decide +kernel
theorem dX7_link_39 : decode cX7_link 39 = .ok (.invokestatic 124, 3) := by decide +kernel
theorem dX7_link_42 : decode cX7_link 42 = .ok (.ireturn, 1) := by decide +kernel
theorem dX7_edgeError_0 : decode cX7_edgeError 0 = .ok (.aload_n 0, 1) := by decide +kernel
theorem dX7_edgeError_1 : decode cX7_edgeError 1 = .ok (.iload_n 2, 1) := by decide +kernel
theorem dX7_edgeError_2 : decode cX7_edgeError 2 = .ok (.invokevirtual 128, 3) := by decide +kernel
theorem dX7_edgeError_5 : decode cX7_edgeError 5 = .ok (.ifCond .eq 11, 3) := by decide +kernel
theorem dX7_edgeError_8 : decode cX7_edgeError 8 = .ok (.aload_n 0, 1) := by decide +kernel
theorem dX7_edgeError_9 : decode cX7_edgeError 9 = .ok (.iload_n 3, 1) := by decide +kernel
theorem dX7_edgeError_10 : decode cX7_edgeError 10 = .ok (.invokevirtual 128, 3) := by decide +kernel
theorem dX7_edgeError_13 : decode cX7_edgeError 13 = .ok (.ifCond .ne 5, 3) := by decide +kernel
theorem dX7_edgeError_16 : decode cX7_edgeError 16 = .ok (.iconst (-1), 1) := by decide +kernel
theorem dX7_edgeError_17 : decode cX7_edgeError 17 = .ok (.ireturn, 1) := by decide +kernel
theorem dX7_edgeError_18 : decode cX7_edgeError 18 = .ok (.iload 4, 2) := by decide +kernel
theorem dX7_edgeError_20 : decode cX7_edgeError 20 = .ok (.i2l, 1) := by decide +kernel
theorem dX7_edgeError_21 : decode cX7_edgeError 21 = .ok (.lconst 1, 1) := by decide +kernel
theorem dX7_edgeError_22 : decode cX7_edgeError 22 = .ok (.ldc2_w 135, 3) := by decide +kernel
theorem dX7_edgeError_25 : decode cX7_edgeError 25 = .ok (.invokestatic 60, 3) := by decide +kernel
theorem dX7_edgeError_28 : decode cX7_edgeError 28 = .ok (.ifCond .ne 6, 3) := by decide +kernel
theorem dX7_edgeError_31 : decode cX7_edgeError 31 = .ok (.bipush (-2), 2) := by decide +kernel
theorem dX7_edgeError_33 : decode cX7_edgeError 33 = .ok (.ireturn, 1) := by decide +kernel
theorem dX7_edgeError_34 : decode cX7_edgeError 34 = .ok (.aload_n 1, 1) := by decide +kernel
theorem dX7_edgeError_35 : decode cX7_edgeError 35 = .ok (.iload_n 2, 1) := by decide +kernel
theorem dX7_edgeError_36 : decode cX7_edgeError 36 = .ok (.iload_n 3, 1) := by decide +kernel
theorem dX7_edgeError_37 : decode cX7_edgeError 37 = .ok (.invokestatic 64, 3) := by decide +kernel
theorem dX7_edgeError_40 : decode cX7_edgeError 40 = .ok (.iaload, 1) := by decide +kernel
theorem dX7_edgeError_41 : decode cX7_edgeError 41 = .ok (.ifCond .ne 8, 3) := by decide +kernel
theorem dX7_edgeError_44 : decode cX7_edgeError 44 = .ok (.bipush (-3), 2) := by decide +kernel
theorem dX7_edgeError_46 : decode cX7_edgeError 46 = .ok (.goto 4, 3) := by decide +kernel
theorem dX7_edgeError_49 : decode cX7_edgeError 49 = .ok (.iconst 0, 1) := by decide +kernel
theorem dX7_edgeError_50 : decode cX7_edgeError 50 = .ok (.ireturn, 1) := by decide +kernel
theorem dX7_cut_0 : decode cX7_cut 0 = .ok (.aload_n 0, 1) := by decide +kernel
theorem dX7_cut_1 : decode cX7_cut 1 = .ok (.aload_n 0, 1) := by decide +kernel
theorem dX7_cut_2 : decode cX7_cut 2 = .ok (.getfield 13, 3) := by decide +kernel
theorem dX7_cut_5 : decode cX7_cut 5 = .ok (.iload_n 1, 1) := by decide +kernel
theorem dX7_cut_6 : decode cX7_cut 6 = .ok (.iload_n 2, 1) := by decide +kernel
theorem dX7_cut_7 : decode cX7_cut 7 = .ok (.iconst 1, 1) := by decide +kernel
theorem dX7_cut_8 : decode cX7_cut 8 = .ok (.invokevirtual 144, 3) := by decide +kernel
theorem dX7_cut_11 : decode cX7_cut 11 = .ok (.istore_n 3, 1) := by decide +kernel
theorem dX7_cut_12 : decode cX7_cut 12 = .ok (.iload_n 3, 1) := by decide +kernel
theorem dX7_cut_13 : decode cX7_cut 13 = .ok (.ifCond .eq 5, 3) := by decide +kernel
theorem dX7_cut_16 : decode cX7_cut 16 = .ok (.iload_n 3, 1) := by decide +kernel
theorem dX7_cut_17 : decode cX7_cut 17 = .ok (.ireturn, 1) := by decide +kernel
theorem dX7_cut_18 : decode cX7_cut 18 = .ok (.aload_n 0, 1) := by decide +kernel
theorem dX7_cut_19 : decode cX7_cut 19 = .ok (.invokevirtual 141, 3) := by decide +kernel
theorem dX7_cut_22 : decode cX7_cut 22 = .ok (.aload_n 0, 1) := by decide +kernel
theorem dX7_cut_23 : decode cX7_cut 23 = .ok (.getfield 13, 3) := by decide +kernel
theorem dX7_cut_26 : decode cX7_cut 26 = .ok (.iload_n 1, 1) := by decide +kernel
theorem dX7_cut_27 : decode cX7_cut 27 = .ok (.iload_n 2, 1) := by decide +kernel
theorem dX7_cut_28 : decode cX7_cut 28 = .ok (.invokestatic 64, 3) := by decide +kernel
theorem dX7_cut_31 : decode cX7_cut 31 = .ok (.iaload, 1) := by decide +kernel
theorem dX7_cut_32 : decode cX7_cut 32 = .ok (.istore 4, 2) := by decide +kernel
theorem dX7_cut_34 : decode cX7_cut 34 = .ok (.aload_n 0, 1) := by decide +kernel
theorem dX7_cut_35 : decode cX7_cut 35 = .ok (.getfield 13, 3) := by decide +kernel
theorem dX7_cut_38 : decode cX7_cut 38 = .ok (.iload_n 1, 1) := by decide +kernel
theorem dX7_cut_39 : decode cX7_cut 39 = .ok (.iload_n 2, 1) := by decide +kernel
theorem dX7_cut_40 : decode cX7_cut 40 = .ok (.iconst 0, 1) := by decide +kernel
theorem dX7_cut_41 : decode cX7_cut 41 = .ok (.invokestatic 105, 3) := by decide +kernel
theorem dX7_cut_44 : decode cX7_cut 44 = .ok (.iload 4, 2) := by decide +kernel
theorem dX7_cut_46 : decode cX7_cut 46 = .ok (.ireturn, 1) := by decide +kernel
theorem dX7_setEdgeWeight_0 : decode cX7_setEdgeWeight 0 = .ok (.aload_n 0, 1) := by decide +kernel
theorem dX7_setEdgeWeight_1 : decode cX7_setEdgeWeight 1 = .ok (.aload_n 0, 1) := by decide +kernel
theorem dX7_setEdgeWeight_2 : decode cX7_setEdgeWeight 2 = .ok (.getfield 13, 3) := by decide +kernel
theorem dX7_setEdgeWeight_5 : decode cX7_setEdgeWeight 5 = .ok (.iload_n 1, 1) := by decide +kernel
theorem dX7_setEdgeWeight_6 : decode cX7_setEdgeWeight 6 = .ok (.iload_n 2, 1) := by decide +kernel
theorem dX7_setEdgeWeight_7 : decode cX7_setEdgeWeight 7 = .ok (.iload_n 3, 1) := by decide +kernel
theorem dX7_setEdgeWeight_8 : decode cX7_setEdgeWeight 8 = .ok (.invokevirtual 144, 3) := by decide +kernel
theorem dX7_setEdgeWeight_11 : decode cX7_setEdgeWeight 11 = .ok (.istore 4, 2) := by decide +kernel
theorem dX7_setEdgeWeight_13 : decode cX7_setEdgeWeight 13 = .ok (.iload 4, 2) := by decide +kernel
theorem dX7_setEdgeWeight_15 : decode cX7_setEdgeWeight 15 = .ok (.ifCond .eq 6, 3) := by decide +kernel
theorem dX7_setEdgeWeight_18 : decode cX7_setEdgeWeight 18 = .ok (.iload 4, 2) := by decide +kernel
theorem dX7_setEdgeWeight_20 : decode cX7_setEdgeWeight 20 = .ok (.ireturn, 1) := by decide +kernel
theorem dX7_setEdgeWeight_21 : decode cX7_setEdgeWeight 21 = .ok (.aload_n 0, 1) := by decide +kernel
theorem dX7_setEdgeWeight_22 : decode cX7_setEdgeWeight 22 = .ok (.invokevirtual 141, 3) := by decide +kernel
theorem dX7_setEdgeWeight_25 : decode cX7_setEdgeWeight 25 = .ok (.aload_n 0, 1) := by decide +kernel
theorem dX7_setEdgeWeight_26 : decode cX7_setEdgeWeight 26 = .ok (.getfield 13, 3) := by decide +kernel
theorem dX7_setEdgeWeight_29 : decode cX7_setEdgeWeight 29 = .ok (.iload_n 1, 1) := by decide +kernel
theorem dX7_setEdgeWeight_30 : decode cX7_setEdgeWeight 30 = .ok (.iload_n 2, 1) := by decide +kernel
theorem dX7_setEdgeWeight_31 : decode cX7_setEdgeWeight 31 = .ok (.invokestatic 64, 3) := by decide +kernel
theorem dX7_setEdgeWeight_34 : decode cX7_setEdgeWeight 34 = .ok (.iaload, 1) := by decide +kernel
theorem dX7_setEdgeWeight_35 : decode cX7_setEdgeWeight 35 = .ok (.istore 5, 2) := by decide +kernel
theorem dX7_setEdgeWeight_37 : decode cX7_setEdgeWeight 37 = .ok (.aload_n 0, 1) := by decide +kernel
theorem dX7_setEdgeWeight_38 : decode cX7_setEdgeWeight 38 = .ok (.getfield 13, 3) := by decide +kernel
theorem dX7_setEdgeWeight_41 : decode cX7_setEdgeWeight 41 = .ok (.iload_n 1, 1) := by decide +kernel
theorem dX7_setEdgeWeight_42 : decode cX7_setEdgeWeight 42 = .ok (.iload_n 2, 1) := by decide +kernel
theorem dX7_setEdgeWeight_43 : decode cX7_setEdgeWeight 43 = .ok (.iload_n 3, 1) := by decide +kernel
theorem dX7_setEdgeWeight_44 : decode cX7_setEdgeWeight 44 = .ok (.invokestatic 105, 3) := by decide +kernel
theorem dX7_setEdgeWeight_47 : decode cX7_setEdgeWeight 47 = .ok (.iload 5, 2) := by decide +kernel
theorem dX7_setEdgeWeight_49 : decode cX7_setEdgeWeight 49 = .ok (.ireturn, 1) := by decide +kernel
theorem dX7_setVertexWeight_0 : decode cX7_setVertexWeight 0 = .ok (.aload_n 0, 1) := by decide +kernel
theorem dX7_setVertexWeight_1 : decode cX7_setVertexWeight 1 = .ok (.iload_n 1, 1) := by decide +kernel
theorem dX7_setVertexWeight_2 : decode cX7_setVertexWeight 2 = .ok (.invokevirtual 128, 3) := by decide +kernel
theorem dX7_setVertexWeight_5 : decode cX7_setVertexWeight 5 = .ok (.ifCond .ne 5, 3) := by decide +kernel
theorem dX7_setVertexWeight_8 : decode cX7_setVertexWeight 8 = .ok (.iconst (-1), 1) := by decide +kernel
theorem dX7_setVertexWeight_9 : decode cX7_setVertexWeight 9 = .ok (.ireturn, 1) := by decide +kernel
theorem dX7_setVertexWeight_10 : decode cX7_setVertexWeight 10 = .ok (.iload_n 2, 1) := by decide +kernel
theorem dX7_setVertexWeight_11 : decode cX7_setVertexWeight 11 = .ok (.i2l, 1) := by decide +kernel
theorem dX7_setVertexWeight_12 : decode cX7_setVertexWeight 12 = .ok (.lconst 0, 1) := by decide +kernel
theorem dX7_setVertexWeight_13 : decode cX7_setVertexWeight 13 = .ok (.ldc2_w 135, 3) := by decide +kernel
theorem dX7_setVertexWeight_16 : decode cX7_setVertexWeight 16 = .ok (.invokestatic 60, 3) := by decide +kernel
theorem dX7_setVertexWeight_19 : decode cX7_setVertexWeight 19 = .ok (.ifCond .ne 6, 3) := by decide +kernel
theorem dX7_setVertexWeight_22 : decode cX7_setVertexWeight 22 = .ok (.bipush (-2), 2) := by decide +kernel
theorem dX7_setVertexWeight_24 : decode cX7_setVertexWeight 24 = .ok (.ireturn, 1) := by decide +kernel
theorem dX7_setVertexWeight_25 : decode cX7_setVertexWeight 25 = .ok (.aload_n 0, 1) := by decide +kernel
theorem dX7_setVertexWeight_26 : decode cX7_setVertexWeight 26 = .ok (.invokevirtual 141, 3) := by decide +kernel
theorem dX7_setVertexWeight_29 : decode cX7_setVertexWeight 29 = .ok (.aload_n 0, 1) := by decide +kernel
theorem dX7_setVertexWeight_30 : decode cX7_setVertexWeight 30 = .ok (.getfield 13, 3) := by decide +kernel
theorem dX7_setVertexWeight_33 : decode cX7_setVertexWeight 33 = .ok (.iload_n 1, 1) := by decide +kernel
theorem dX7_setVertexWeight_34 : decode cX7_setVertexWeight 34 = .ok (.iaload, 1) := by decide +kernel
theorem dX7_setVertexWeight_35 : decode cX7_setVertexWeight 35 = .ok (.istore_n 3, 1) := by decide +kernel
theorem dX7_setVertexWeight_36 : decode cX7_setVertexWeight 36 = .ok (.aload_n 0, 1) := by decide +kernel
theorem dX7_setVertexWeight_37 : decode cX7_setVertexWeight 37 = .ok (.getfield 13, 3) := by decide +kernel
theorem dX7_setVertexWeight_40 : decode cX7_setVertexWeight 40 = .ok (.iload_n 1, 1) := by decide +kernel
theorem dX7_setVertexWeight_41 : decode cX7_setVertexWeight 41 = .ok (.iload_n 2, 1) := by decide +kernel
theorem dX7_setVertexWeight_42 : decode cX7_setVertexWeight 42 = .ok (.iastore, 1) := by decide +kernel
theorem dX7_setVertexWeight_43 : decode cX7_setVertexWeight 43 = .ok (.iload_n 3, 1) := by decide +kernel
theorem dX7_setVertexWeight_44 : decode cX7_setVertexWeight 44 = .ok (.ireturn, 1) := by decide +kernel
theorem dX7_undo_0 : decode cX7_undo 0 = .ok (.aload_n 0, 1) := by decide +kernel
theorem dX7_undo_1 : decode cX7_undo 1 = .ok (.getfield 121, 3) := by decide +kernel
theorem dX7_undo_4 : decode cX7_undo 4 = .ok (.ifCond .ne 6, 3) := by decide +kernel
theorem dX7_undo_7 : decode cX7_undo 7 = .ok (.bipush (-3), 2) := by decide +kernel
theorem dX7_undo_9 : decode cX7_undo 9 = .ok (.ireturn, 1) := by decide +kernel
theorem dX7_undo_10 : decode cX7_undo 10 = .ok (.aload_n 0, 1) := by decide +kernel
theorem dX7_undo_11 : decode cX7_undo 11 = .ok (.dup, 1) := by decide +kernel
theorem dX7_undo_12 : decode cX7_undo 12 = .ok (.getfield 121, 3) := by decide +kernel
theorem dX7_undo_15 : decode cX7_undo 15 = .ok (.iconst 1, 1) := by decide +kernel
theorem dX7_undo_16 : decode cX7_undo 16 = .ok (.isub, 1) := by decide +kernel
theorem dX7_undo_17 : decode cX7_undo 17 = .ok (.putfield 121, 3) := by decide +kernel
theorem dX7_undo_20 : decode cX7_undo 20 = .ok (.aload_n 0, 1) := by decide +kernel
theorem dX7_undo_21 : decode cX7_undo 21 = .ok (.aload_n 0, 1) := by decide +kernel
theorem dX7_undo_22 : decode cX7_undo 22 = .ok (.getfield 132, 3) := by decide +kernel
theorem dX7_undo_25 : decode cX7_undo 25 = .ok (.bipush 14, 2) := by decide +kernel
theorem dX7_undo_27 : decode cX7_undo 27 = .ok (.iadd, 1) := by decide +kernel
theorem dX7_undo_28 : decode cX7_undo 28 = .ok (.iconst 1, 1) := by decide +kernel
theorem dX7_undo_29 : decode cX7_undo 29 = .ok (.isub, 1) := by decide +kernel
theorem dX7_undo_30 : decode cX7_undo 30 = .ok (.bipush 14, 2) := by decide +kernel
theorem dX7_undo_32 : decode cX7_undo 32 = .ok (.irem, 1) := by decide +kernel
theorem dX7_undo_33 : decode cX7_undo 33 = .ok (.putfield 132, 3) := by decide +kernel
theorem dX7_undo_36 : decode cX7_undo 36 = .ok (.iconst 0, 1) := by decide +kernel
theorem dX7_undo_37 : decode cX7_undo 37 = .ok (.istore_n 1, 1) := by decide +kernel
theorem dX7_undo_38 : decode cX7_undo 38 = .ok (.iload_n 1, 1) := by decide +kernel
theorem dX7_undo_39 : decode cX7_undo 39 = .ok (.sipush 156, 3) := by decide +kernel
theorem dX7_undo_42 : decode cX7_undo 42 = .ok (.if_icmp .ge 30, 3) := by decide +kernel
theorem dX7_undo_45 : decode cX7_undo 45 = .ok (.aload_n 0, 1) := by decide +kernel
theorem dX7_undo_46 : decode cX7_undo 46 = .ok (.getfield 13, 3) := by decide +kernel
theorem dX7_undo_49 : decode cX7_undo 49 = .ok (.iload_n 1, 1) := by decide +kernel
theorem dX7_undo_50 : decode cX7_undo 50 = .ok (.aload_n 0, 1) := by decide +kernel
theorem dX7_undo_51 : decode cX7_undo 51 = .ok (.getfield 22, 3) := by decide +kernel
theorem dX7_undo_54 : decode cX7_undo 54 = .ok (.sipush 156, 3) := by decide +kernel
theorem dX7_undo_57 : decode cX7_undo 57 = .ok (.aload_n 0, 1) := by decide +kernel
theorem dX7_undo_58 : decode cX7_undo 58 = .ok (.getfield 132, 3) := by decide +kernel
theorem dX7_undo_61 : decode cX7_undo 61 = .ok (.imul, 1) := by decide +kernel
theorem dX7_undo_62 : decode cX7_undo 62 = .ok (.iload_n 1, 1) := by decide +kernel
theorem dX7_undo_63 : decode cX7_undo 63 = .ok (.iadd, 1) := by decide +kernel
theorem dX7_undo_64 : decode cX7_undo 64 = .ok (.iaload, 1) := by decide +kernel
theorem dX7_undo_65 : decode cX7_undo 65 = .ok (.iastore, 1) := by decide +kernel
theorem dX7_undo_66 : decode cX7_undo 66 = .ok (.iinc 1 1, 3) := by decide +kernel
theorem dX7_undo_69 : decode cX7_undo 69 = .ok (.goto (-31), 3) := by decide +kernel
theorem dX7_undo_72 : decode cX7_undo 72 = .ok (.aload_n 0, 1) := by decide +kernel
theorem dX7_undo_73 : decode cX7_undo 73 = .ok (.getfield 121, 3) := by decide +kernel
theorem dX7_undo_76 : decode cX7_undo 76 = .ok (.ireturn, 1) := by decide +kernel
theorem dX7_distance_0 : decode cX7_distance 0 = .ok (.aload_n 0, 1) := by decide +kernel
theorem dX7_distance_1 : decode cX7_distance 1 = .ok (.iload_n 1, 1) := by decide +kernel
theorem dX7_distance_2 : decode cX7_distance 2 = .ok (.invokevirtual 128, 3) := by decide +kernel
theorem dX7_distance_5 : decode cX7_distance 5 = .ok (.ifCond .eq 24, 3) := by decide +kernel
theorem dX7_distance_8 : decode cX7_distance 8 = .ok (.aload_n 0, 1) := by decide +kernel
theorem dX7_distance_9 : decode cX7_distance 9 = .ok (.iload_n 2, 1) := by decide +kernel
theorem dX7_distance_10 : decode cX7_distance 10 = .ok (.invokevirtual 128, 3) := by decide +kernel
theorem dX7_distance_13 : decode cX7_distance 13 = .ok (.ifCond .eq 16, 3) := by decide +kernel
theorem dX7_distance_16 : decode cX7_distance 16 = .ok (.aload_n 0, 1) := by decide +kernel
theorem dX7_distance_17 : decode cX7_distance 17 = .ok (.aload_n 0, 1) := by decide +kernel
theorem dX7_distance_18 : decode cX7_distance 18 = .ok (.getfield 13, 3) := by decide +kernel
theorem dX7_distance_21 : decode cX7_distance 21 = .ok (.iload_n 1, 1) := by decide +kernel
theorem dX7_distance_22 : decode cX7_distance 22 = .ok (.iload_n 2, 1) := by decide +kernel
theorem dX7_distance_23 : decode cX7_distance 23 = .ok (.invokevirtual 72, 3) := by decide +kernel
theorem dX7_distance_26 : decode cX7_distance 26 = .ok (.goto 4, 3) := by decide +kernel
theorem dX7_distance_29 : decode cX7_distance 29 = .ok (.iconst (-1), 1) := by decide +kernel
theorem dX7_distance_30 : decode cX7_distance 30 = .ok (.ireturn, 1) := by decide +kernel
theorem dX7_pathVertex_0 : decode cX7_pathVertex 0 = .ok (.aload_n 0, 1) := by decide +kernel
theorem dX7_pathVertex_1 : decode cX7_pathVertex 1 = .ok (.iload_n 1, 1) := by decide +kernel
theorem dX7_pathVertex_2 : decode cX7_pathVertex 2 = .ok (.invokevirtual 128, 3) := by decide +kernel
theorem dX7_pathVertex_5 : decode cX7_pathVertex 5 = .ok (.ifCond .eq 11, 3) := by decide +kernel
theorem dX7_pathVertex_8 : decode cX7_pathVertex 8 = .ok (.aload_n 0, 1) := by decide +kernel
theorem dX7_pathVertex_9 : decode cX7_pathVertex 9 = .ok (.iload_n 2, 1) := by decide +kernel
theorem dX7_pathVertex_10 : decode cX7_pathVertex 10 = .ok (.invokevirtual 128, 3) := by decide +kernel
theorem dX7_pathVertex_13 : decode cX7_pathVertex 13 = .ok (.ifCond .ne 5, 3) := by decide +kernel
theorem dX7_pathVertex_16 : decode cX7_pathVertex 16 = .ok (.iconst (-1), 1) := by decide +kernel
theorem dX7_pathVertex_17 : decode cX7_pathVertex 17 = .ok (.ireturn, 1) := by decide +kernel
theorem dX7_pathVertex_18 : decode cX7_pathVertex 18 = .ok (.iload_n 3, 1) := by decide +kernel
theorem dX7_pathVertex_19 : decode cX7_pathVertex 19 = .ok (.ifCond .ge 6, 3) := by decide +kernel
theorem dX7_pathVertex_22 : decode cX7_pathVertex 22 = .ok (.bipush (-2), 2) := by decide +kernel
theorem dX7_pathVertex_24 : decode cX7_pathVertex 24 = .ok (.ireturn, 1) := by decide +kernel
theorem dX7_pathVertex_25 : decode cX7_pathVertex 25 = .ok (.aload_n 0, 1) := by decide +kernel
theorem dX7_pathVertex_26 : decode cX7_pathVertex 26 = .ok (.aload_n 0, 1) := by decide +kernel
theorem dX7_pathVertex_27 : decode cX7_pathVertex 27 = .ok (.getfield 13, 3) := by decide +kernel
theorem dX7_pathVertex_30 : decode cX7_pathVertex 30 = .ok (.iload_n 2, 1) := by decide +kernel
theorem dX7_pathVertex_31 : decode cX7_pathVertex 31 = .ok (.invokevirtual 68, 3) := by decide +kernel
theorem dX7_pathVertex_34 : decode cX7_pathVertex 34 = .ok (.aload_n 0, 1) := by decide +kernel
theorem dX7_pathVertex_35 : decode cX7_pathVertex 35 = .ok (.getfield 35, 3) := by decide +kernel
theorem dX7_pathVertex_38 : decode cX7_pathVertex 38 = .ok (.iload_n 1, 1) := by decide +kernel
theorem dX7_pathVertex_39 : decode cX7_pathVertex 39 = .ok (.iaload, 1) := by decide +kernel
theorem dX7_pathVertex_40 : decode cX7_pathVertex 40 = .ok (.bipush (-9), 2) := by decide +kernel
theorem dX7_pathVertex_42 : decode cX7_pathVertex 42 = .ok (.if_icmp .eq 13, 3) := by decide +kernel
theorem dX7_pathVertex_45 : decode cX7_pathVertex 45 = .ok (.iload_n 3, 1) := by decide +kernel
theorem dX7_pathVertex_46 : decode cX7_pathVertex 46 = .ok (.aload_n 0, 1) := by decide +kernel
theorem dX7_pathVertex_47 : decode cX7_pathVertex 47 = .ok (.getfield 38, 3) := by decide +kernel
theorem dX7_pathVertex_50 : decode cX7_pathVertex 50 = .ok (.iload_n 1, 1) := by decide +kernel
theorem dX7_pathVertex_51 : decode cX7_pathVertex 51 = .ok (.iaload, 1) := by decide +kernel
theorem dX7_pathVertex_52 : decode cX7_pathVertex 52 = .ok (.if_icmp .le 6, 3) := by decide +kernel
theorem dX7_pathVertex_55 : decode cX7_pathVertex 55 = .ok (.bipush (-9), 2) := by decide +kernel
theorem dX7_pathVertex_57 : decode cX7_pathVertex 57 = .ok (.ireturn, 1) := by decide +kernel
theorem dX7_pathVertex_58 : decode cX7_pathVertex 58 = .ok (.iload_n 1, 1) := by decide +kernel
theorem dX7_pathVertex_59 : decode cX7_pathVertex 59 = .ok (.istore 4, 2) := by decide +kernel
theorem dX7_pathVertex_61 : decode cX7_pathVertex 61 = .ok (.iconst 0, 1) := by decide +kernel
theorem dX7_pathVertex_62 : decode cX7_pathVertex 62 = .ok (.istore 5, 2) := by decide +kernel
theorem dX7_pathVertex_64 : decode cX7_pathVertex 64 = .ok (.iload 5, 2) := by decide +kernel
theorem dX7_pathVertex_66 : decode cX7_pathVertex 66 = .ok (.iload_n 3, 1) := by decide +kernel
theorem dX7_pathVertex_67 : decode cX7_pathVertex 67 = .ok (.if_icmp .ge 78, 3) := by decide +kernel
theorem dX7_pathVertex_70 : decode cX7_pathVertex 70 = .ok (.bipush (-9), 2) := by decide +kernel
theorem dX7_pathVertex_72 : decode cX7_pathVertex 72 = .ok (.istore 6, 2) := by decide +kernel
theorem dX7_pathVertex_74 : decode cX7_pathVertex 74 = .ok (.iconst 0, 1) := by decide +kernel
theorem dX7_pathVertex_75 : decode cX7_pathVertex 75 = .ok (.istore 7, 2) := by decide +kernel
theorem dX7_pathVertex_77 : decode cX7_pathVertex 77 = .ok (.iload 7, 2) := by decide +kernel
theorem dX7_pathVertex_79 : decode cX7_pathVertex 79 = .ok (.aload_n 0, 1) := by decide +kernel
theorem dX7_pathVertex_80 : decode cX7_pathVertex 80 = .ok (.getfield 56, 3) := by decide +kernel
theorem dX7_pathVertex_83 : decode cX7_pathVertex 83 = .ok (.if_icmp .ge 52, 3) := by decide +kernel
theorem dX7_pathVertex_86 : decode cX7_pathVertex 86 = .ok (.aload_n 0, 1) := by decide +kernel
theorem dX7_pathVertex_87 : decode cX7_pathVertex 87 = .ok (.getfield 13, 3) := by decide +kernel
theorem dX7_pathVertex_90 : decode cX7_pathVertex 90 = .ok (.iload 4, 2) := by decide +kernel
theorem dX7_pathVertex_92 : decode cX7_pathVertex 92 = .ok (.iload 7, 2) := by decide +kernel
theorem dX7_pathVertex_94 : decode cX7_pathVertex 94 = .ok (.invokestatic 64, 3) := by decide +kernel
theorem dX7_pathVertex_97 : decode cX7_pathVertex 97 = .ok (.iaload, 1) := by decide +kernel
theorem dX7_pathVertex_98 : decode cX7_pathVertex 98 = .ok (.ifCond .le 27, 3) := by decide +kernel
theorem dX7_pathVertex_101 : decode cX7_pathVertex 101 = .ok (.aload_n 0, 1) := by decide +kernel
theorem dX7_pathVertex_102 : decode cX7_pathVertex 102 = .ok (.getfield 38, 3) := by decide +kernel
theorem dX7_pathVertex_105 : decode cX7_pathVertex 105 = .ok (.iload 7, 2) := by decide +kernel
theorem dX7_pathVertex_107 : decode cX7_pathVertex 107 = .ok (.iaload, 1) := by decide +kernel
theorem dX7_pathVertex_108 : decode cX7_pathVertex 108 = .ok (.aload_n 0, 1) := by decide +kernel
theorem dX7_pathVertex_109 : decode cX7_pathVertex 109 = .ok (.getfield 38, 3) := by decide +kernel
theorem dX7_pathVertex_112 : decode cX7_pathVertex 112 = .ok (.iload 4, 2) := by decide +kernel
theorem dX7_pathVertex_114 : decode cX7_pathVertex 114 = .ok (.iaload, 1) := by decide +kernel
theorem dX7_pathVertex_115 : decode cX7_pathVertex 115 = .ok (.iconst 1, 1) := by decide +kernel
theorem dX7_pathVertex_116 : decode cX7_pathVertex 116 = .ok (.isub, 1) := by decide +kernel
theorem dX7_pathVertex_117 : decode cX7_pathVertex 117 = .ok (.if_icmp .ne 8, 3) := by decide +kernel
theorem dX7_pathVertex_120 : decode cX7_pathVertex 120 = .ok (.iload 7, 2) := by decide +kernel
theorem dX7_pathVertex_122 : decode cX7_pathVertex 122 = .ok (.goto 5, 3) := by decide +kernel
theorem dX7_pathVertex_125 : decode cX7_pathVertex 125 = .ok (.iload 6, 2) := by decide +kernel
theorem dX7_pathVertex_127 : decode cX7_pathVertex 127 = .ok (.istore 6, 2) := by decide +kernel
theorem dX7_pathVertex_129 : decode cX7_pathVertex 129 = .ok (.iinc 7 1, 3) := by decide +kernel
theorem dX7_pathVertex_132 : decode cX7_pathVertex 132 = .ok (.goto (-55), 3) := by decide +kernel
theorem dX7_pathVertex_135 : decode cX7_pathVertex 135 = .ok (.iload 6, 2) := by decide +kernel
theorem dX7_pathVertex_137 : decode cX7_pathVertex 137 = .ok (.istore 4, 2) := by decide +kernel
theorem dX7_pathVertex_139 : decode cX7_pathVertex 139 = .ok (.iinc 5 1, 3) := by decide +kernel
theorem dX7_pathVertex_142 : decode cX7_pathVertex 142 = .ok (.goto (-78), 3) := by decide +kernel
theorem dX7_pathVertex_145 : decode cX7_pathVertex 145 = .ok (.iload 4, 2) := by decide +kernel
theorem dX7_pathVertex_147 : decode cX7_pathVertex 147 = .ok (.ireturn, 1) := by decide +kernel
theorem dX7_eccentricity_0 : decode cX7_eccentricity 0 = .ok (.aload_n 0, 1) := by decide +kernel
theorem dX7_eccentricity_1 : decode cX7_eccentricity 1 = .ok (.iload_n 1, 1) := by decide +kernel
theorem dX7_eccentricity_2 : decode cX7_eccentricity 2 = .ok (.invokevirtual 128, 3) := by decide +kernel
theorem dX7_eccentricity_5 : decode cX7_eccentricity 5 = .ok (.ifCond .eq 15, 3) := by decide +kernel
theorem dX7_eccentricity_8 : decode cX7_eccentricity 8 = .ok (.aload_n 0, 1) := by decide +kernel
theorem dX7_eccentricity_9 : decode cX7_eccentricity 9 = .ok (.aload_n 0, 1) := by decide +kernel
theorem dX7_eccentricity_10 : decode cX7_eccentricity 10 = .ok (.getfield 13, 3) := by decide +kernel
theorem dX7_eccentricity_13 : decode cX7_eccentricity 13 = .ok (.iload_n 1, 1) := by decide +kernel
theorem dX7_eccentricity_14 : decode cX7_eccentricity 14 = .ok (.invokevirtual 76, 3) := by decide +kernel
theorem dX7_eccentricity_17 : decode cX7_eccentricity 17 = .ok (.goto 4, 3) := by decide +kernel
theorem dX7_eccentricity_20 : decode cX7_eccentricity 20 = .ok (.iconst (-1), 1) := by decide +kernel
theorem dX7_eccentricity_21 : decode cX7_eccentricity 21 = .ok (.ireturn, 1) := by decide +kernel
theorem dX7_diameter_0 : decode cX7_diameter 0 = .ok (.aload_n 0, 1) := by decide +kernel
theorem dX7_diameter_1 : decode cX7_diameter 1 = .ok (.iload_n 1, 1) := by decide +kernel
theorem dX7_diameter_2 : decode cX7_diameter 2 = .ok (.invokevirtual 128, 3) := by decide +kernel
theorem dX7_diameter_5 : decode cX7_diameter 5 = .ok (.ifCond .eq 15, 3) := by decide +kernel
theorem dX7_diameter_8 : decode cX7_diameter 8 = .ok (.aload_n 0, 1) := by decide +kernel
theorem dX7_diameter_9 : decode cX7_diameter 9 = .ok (.aload_n 0, 1) := by decide +kernel
theorem dX7_diameter_10 : decode cX7_diameter 10 = .ok (.getfield 13, 3) := by decide +kernel
theorem dX7_diameter_13 : decode cX7_diameter 13 = .ok (.iload_n 1, 1) := by decide +kernel
theorem dX7_diameter_14 : decode cX7_diameter 14 = .ok (.invokevirtual 147, 3) := by decide +kernel
theorem dX7_diameter_17 : decode cX7_diameter 17 = .ok (.goto 4, 3) := by decide +kernel
theorem dX7_diameter_20 : decode cX7_diameter 20 = .ok (.iconst (-1), 1) := by decide +kernel
theorem dX7_diameter_21 : decode cX7_diameter 21 = .ok (.ireturn, 1) := by decide +kernel
theorem dX7_diameterEnd_0 : decode cX7_diameterEnd 0 = .ok (.aload_n 0, 1) := by decide +kernel
theorem dX7_diameterEnd_1 : decode cX7_diameterEnd 1 = .ok (.iload_n 1, 1) := by decide +kernel
theorem dX7_diameterEnd_2 : decode cX7_diameterEnd 2 = .ok (.invokevirtual 128, 3) := by decide +kernel
theorem dX7_diameterEnd_5 : decode cX7_diameterEnd 5 = .ok (.ifCond .ne 5, 3) := by decide +kernel
theorem dX7_diameterEnd_8 : decode cX7_diameterEnd 8 = .ok (.iconst (-1), 1) := by decide +kernel
theorem dX7_diameterEnd_9 : decode cX7_diameterEnd 9 = .ok (.ireturn, 1) := by decide +kernel
theorem dX7_diameterEnd_10 : decode cX7_diameterEnd 10 = .ok (.iload_n 2, 1) := by decide +kernel
theorem dX7_diameterEnd_11 : decode cX7_diameterEnd 11 = .ok (.i2l, 1) := by decide +kernel
theorem dX7_diameterEnd_12 : decode cX7_diameterEnd 12 = .ok (.lconst 0, 1) := by decide +kernel
theorem dX7_diameterEnd_13 : decode cX7_diameterEnd 13 = .ok (.lconst 1, 1) := by decide +kernel
theorem dX7_diameterEnd_14 : decode cX7_diameterEnd 14 = .ok (.invokestatic 60, 3) := by decide +kernel
theorem dX7_diameterEnd_17 : decode cX7_diameterEnd 17 = .ok (.ifCond .ne 6, 3) := by decide +kernel
theorem dX7_diameterEnd_20 : decode cX7_diameterEnd 20 = .ok (.bipush (-2), 2) := by decide +kernel
theorem dX7_diameterEnd_22 : decode cX7_diameterEnd 22 = .ok (.ireturn, 1) := by decide +kernel
theorem dX7_diameterEnd_23 : decode cX7_diameterEnd 23 = .ok (.aload_n 0, 1) := by decide +kernel
theorem dX7_diameterEnd_24 : decode cX7_diameterEnd 24 = .ok (.aload_n 0, 1) := by decide +kernel
theorem dX7_diameterEnd_25 : decode cX7_diameterEnd 25 = .ok (.getfield 13, 3) := by decide +kernel
theorem dX7_diameterEnd_28 : decode cX7_diameterEnd 28 = .ok (.iload_n 1, 1) := by decide +kernel
theorem dX7_diameterEnd_29 : decode cX7_diameterEnd 29 = .ok (.invokevirtual 147, 3) := by decide +kernel
theorem dX7_diameterEnd_32 : decode cX7_diameterEnd 32 = .ok (.istore_n 3, 1) := by decide +kernel
theorem dX7_diameterEnd_33 : decode cX7_diameterEnd 33 = .ok (.iconst 0, 1) := by decide +kernel
theorem dX7_diameterEnd_34 : decode cX7_diameterEnd 34 = .ok (.istore 4, 2) := by decide +kernel
theorem dX7_diameterEnd_36 : decode cX7_diameterEnd 36 = .ok (.iload 4, 2) := by decide +kernel
theorem dX7_diameterEnd_38 : decode cX7_diameterEnd 38 = .ok (.aload_n 0, 1) := by decide +kernel
theorem dX7_diameterEnd_39 : decode cX7_diameterEnd 39 = .ok (.getfield 56, 3) := by decide +kernel
theorem dX7_diameterEnd_42 : decode cX7_diameterEnd 42 = .ok (.if_icmp .ge 72, 3) := by decide +kernel
theorem dX7_diameterEnd_45 : decode cX7_diameterEnd 45 = .ok (.aload_n 0, 1) := by decide +kernel
theorem dX7_diameterEnd_46 : decode cX7_diameterEnd 46 = .ok (.aload_n 0, 1) := by decide +kernel
theorem dX7_diameterEnd_47 : decode cX7_diameterEnd 47 = .ok (.getfield 13, 3) := by decide +kernel
theorem dX7_diameterEnd_50 : decode cX7_diameterEnd 50 = .ok (.iload 4, 2) := by decide +kernel
theorem dX7_diameterEnd_52 : decode cX7_diameterEnd 52 = .ok (.invokevirtual 68, 3) := by decide +kernel
theorem dX7_diameterEnd_55 : decode cX7_diameterEnd 55 = .ok (.iload 4, 2) := by decide +kernel
theorem dX7_diameterEnd_57 : decode cX7_diameterEnd 57 = .ok (.istore 5, 2) := by decide +kernel
theorem dX7_diameterEnd_59 : decode cX7_diameterEnd 59 = .ok (.iload 5, 2) := by decide +kernel
theorem dX7_diameterEnd_61 : decode cX7_diameterEnd 61 = .ok (.aload_n 0, 1) := by decide +kernel
theorem dX7_diameterEnd_62 : decode cX7_diameterEnd 62 = .ok (.getfield 56, 3) := by decide +kernel
theorem dX7_diameterEnd_65 : decode cX7_diameterEnd 65 = .ok (.if_icmp .ge 43, 3) := by decide +kernel
theorem dX7_diameterEnd_68 : decode cX7_diameterEnd 68 = .ok (.aload_n 0, 1) := by decide +kernel
theorem dX7_diameterEnd_69 : decode cX7_diameterEnd 69 = .ok (.getfield 35, 3) := by decide +kernel
theorem dX7_diameterEnd_72 : decode cX7_diameterEnd 72 = .ok (.iload_n 1, 1) := by decide +kernel
theorem dX7_diameterEnd_73 : decode cX7_diameterEnd 73 = .ok (.iaload, 1) := by decide +kernel
theorem dX7_diameterEnd_74 : decode cX7_diameterEnd 74 = .ok (.bipush (-9), 2) := by decide +kernel
theorem dX7_diameterEnd_76 : decode cX7_diameterEnd 76 = .ok (.if_icmp .eq 32, 3) := by decide +kernel
theorem dX7_diameterEnd_79 : decode cX7_diameterEnd 79 = .ok (.aload_n 0, 1) := by decide +kernel
theorem dX7_diameterEnd_80 : decode cX7_diameterEnd 80 = .ok (.getfield 35, 3) := by decide +kernel
theorem dX7_diameterEnd_83 : decode cX7_diameterEnd 83 = .ok (.iload 5, 2) := by decide +kernel
theorem dX7_diameterEnd_85 : decode cX7_diameterEnd 85 = .ok (.iaload, 1) := by decide +kernel
theorem dX7_diameterEnd_86 : decode cX7_diameterEnd 86 = .ok (.iload_n 3, 1) := by decide +kernel
theorem dX7_diameterEnd_87 : decode cX7_diameterEnd 87 = .ok (.if_icmp .ne 15, 3) := by decide +kernel
theorem dX7_diameterEnd_90 : decode cX7_diameterEnd 90 = .ok (.iload_n 2, 1) := by decide +kernel
theorem dX7_diameterEnd_91 : decode cX7_diameterEnd 91 = .ok (.ifCond .ne 8, 3) := by decide +kernel
theorem dX7_diameterEnd_94 : decode cX7_diameterEnd 94 = .ok (.iload 4, 2) := by decide +kernel
theorem dX7_diameterEnd_96 : decode cX7_diameterEnd 96 = .ok (.goto 5, 3) := by decide +kernel
theorem dX7_diameterEnd_99 : decode cX7_diameterEnd 99 = .ok (.iload 5, 2) := by decide +kernel
theorem dX7_diameterEnd_101 : decode cX7_diameterEnd 101 = .ok (.ireturn, 1) := by decide +kernel
theorem dX7_diameterEnd_102 : decode cX7_diameterEnd 102 = .ok (.iinc 5 1, 3) := by decide +kernel
theorem dX7_diameterEnd_105 : decode cX7_diameterEnd 105 = .ok (.goto (-46), 3) := by decide +kernel
theorem dX7_diameterEnd_108 : decode cX7_diameterEnd 108 = .ok (.iinc 4 1, 3) := by decide +kernel
theorem dX7_diameterEnd_111 : decode cX7_diameterEnd 111 = .ok (.goto (-75), 3) := by decide +kernel
theorem dX7_diameterEnd_114 : decode cX7_diameterEnd 114 = .ok (.bipush (-9), 2) := by decide +kernel
theorem dX7_diameterEnd_116 : decode cX7_diameterEnd 116 = .ok (.ireturn, 1) := by decide +kernel
theorem dX7_centre_0 : decode cX7_centre 0 = .ok (.aload_n 0, 1) := by decide +kernel
theorem dX7_centre_1 : decode cX7_centre 1 = .ok (.iload_n 1, 1) := by decide +kernel
theorem dX7_centre_2 : decode cX7_centre 2 = .ok (.invokevirtual 128, 3) := by decide +kernel
theorem dX7_centre_5 : decode cX7_centre 5 = .ok (.ifCond .eq 16, 3) := by decide +kernel
theorem dX7_centre_8 : decode cX7_centre 8 = .ok (.aload_n 0, 1) := by decide +kernel
theorem dX7_centre_9 : decode cX7_centre 9 = .ok (.aload_n 0, 1) := by decide +kernel
theorem dX7_centre_10 : decode cX7_centre 10 = .ok (.getfield 13, 3) := by decide +kernel
theorem dX7_centre_13 : decode cX7_centre 13 = .ok (.iload_n 1, 1) := by decide +kernel
theorem dX7_centre_14 : decode cX7_centre 14 = .ok (.iconst 0, 1) := by decide +kernel
theorem dX7_centre_15 : decode cX7_centre 15 = .ok (.invokevirtual 150, 3) := by decide +kernel
theorem dX7_centre_18 : decode cX7_centre 18 = .ok (.goto 4, 3) := by decide +kernel
theorem dX7_centre_21 : decode cX7_centre 21 = .ok (.iconst (-1), 1) := by decide +kernel
theorem dX7_centre_22 : decode cX7_centre 22 = .ok (.ireturn, 1) := by decide +kernel
theorem dX7_median_0 : decode cX7_median 0 = .ok (.aload_n 0, 1) := by decide +kernel
theorem dX7_median_1 : decode cX7_median 1 = .ok (.iload_n 1, 1) := by decide +kernel
theorem dX7_median_2 : decode cX7_median 2 = .ok (.invokevirtual 128, 3) := by decide +kernel
theorem dX7_median_5 : decode cX7_median 5 = .ok (.ifCond .eq 16, 3) := by decide +kernel
theorem dX7_median_8 : decode cX7_median 8 = .ok (.aload_n 0, 1) := by decide +kernel
theorem dX7_median_9 : decode cX7_median 9 = .ok (.aload_n 0, 1) := by decide +kernel
theorem dX7_median_10 : decode cX7_median 10 = .ok (.getfield 13, 3) := by decide +kernel
theorem dX7_median_13 : decode cX7_median 13 = .ok (.iload_n 1, 1) := by decide +kernel
theorem dX7_median_14 : decode cX7_median 14 = .ok (.iconst 1, 1) := by decide +kernel
theorem dX7_median_15 : decode cX7_median 15 = .ok (.invokevirtual 150, 3) := by decide +kernel
theorem dX7_median_18 : decode cX7_median 18 = .ok (.goto 4, 3) := by decide +kernel
theorem dX7_median_21 : decode cX7_median 21 = .ok (.iconst (-1), 1) := by decide +kernel
theorem dX7_median_22 : decode cX7_median 22 = .ok (.ireturn, 1) := by decide +kernel
theorem dX7_cost_0 : decode cX7_cost 0 = .ok (.aload_n 0, 1) := by decide +kernel
theorem dX7_cost_1 : decode cX7_cost 1 = .ok (.iload_n 1, 1) := by decide +kernel
theorem dX7_cost_2 : decode cX7_cost 2 = .ok (.invokevirtual 128, 3) := by decide +kernel
theorem dX7_cost_5 : decode cX7_cost 5 = .ok (.ifCond .eq 15, 3) := by decide +kernel
theorem dX7_cost_8 : decode cX7_cost 8 = .ok (.aload_n 0, 1) := by decide +kernel
theorem dX7_cost_9 : decode cX7_cost 9 = .ok (.aload_n 0, 1) := by decide +kernel
theorem dX7_cost_10 : decode cX7_cost 10 = .ok (.getfield 13, 3) := by decide +kernel
theorem dX7_cost_13 : decode cX7_cost 13 = .ok (.iload_n 1, 1) := by decide +kernel
theorem dX7_cost_14 : decode cX7_cost 14 = .ok (.invokevirtual 80, 3) := by decide +kernel
theorem dX7_cost_17 : decode cX7_cost 17 = .ok (.goto 4, 3) := by decide +kernel
theorem dX7_cost_20 : decode cX7_cost 20 = .ok (.iconst (-1), 1) := by decide +kernel
theorem dX7_cost_21 : decode cX7_cost 21 = .ok (.ireturn, 1) := by decide +kernel
theorem dX7_liesBetween_0 : decode cX7_liesBetween 0 = .ok (.aload_n 0, 1) := by decide +kernel
theorem dX7_liesBetween_1 : decode cX7_liesBetween 1 = .ok (.aload_n 0, 1) := by decide +kernel
theorem dX7_liesBetween_2 : decode cX7_liesBetween 2 = .ok (.getfield 13, 3) := by decide +kernel
theorem dX7_liesBetween_5 : decode cX7_liesBetween 5 = .ok (.iload_n 2, 1) := by decide +kernel
theorem dX7_liesBetween_6 : decode cX7_liesBetween 6 = .ok (.iload_n 3, 1) := by decide +kernel
theorem dX7_liesBetween_7 : decode cX7_liesBetween 7 = .ok (.invokevirtual 72, 3) := by decide +kernel
theorem dX7_liesBetween_10 : decode cX7_liesBetween 10 = .ok (.istore 4, 2) := by decide +kernel
theorem dX7_liesBetween_12 : decode cX7_liesBetween 12 = .ok (.aload_n 0, 1) := by decide +kernel
theorem dX7_liesBetween_13 : decode cX7_liesBetween 13 = .ok (.aload_n 0, 1) := by decide +kernel
theorem dX7_liesBetween_14 : decode cX7_liesBetween 14 = .ok (.getfield 13, 3) := by decide +kernel
theorem dX7_liesBetween_17 : decode cX7_liesBetween 17 = .ok (.iload_n 1, 1) := by decide +kernel
theorem dX7_liesBetween_18 : decode cX7_liesBetween 18 = .ok (.invokevirtual 68, 3) := by decide +kernel
theorem dX7_liesBetween_21 : decode cX7_liesBetween 21 = .ok (.aload_n 0, 1) := by decide +kernel
theorem dX7_liesBetween_22 : decode cX7_liesBetween 22 = .ok (.getfield 35, 3) := by decide +kernel
theorem dX7_liesBetween_25 : decode cX7_liesBetween 25 = .ok (.iload_n 2, 1) := by decide +kernel
theorem dX7_liesBetween_26 : decode cX7_liesBetween 26 = .ok (.iaload, 1) := by decide +kernel
theorem dX7_liesBetween_27 : decode cX7_liesBetween 27 = .ok (.bipush (-9), 2) := by decide +kernel
theorem dX7_liesBetween_29 : decode cX7_liesBetween 29 = .ok (.if_icmp .eq 25, 3) := by decide +kernel
theorem dX7_liesBetween_32 : decode cX7_liesBetween 32 = .ok (.aload_n 0, 1) := by decide +kernel
theorem dX7_liesBetween_33 : decode cX7_liesBetween 33 = .ok (.getfield 35, 3) := by decide +kernel
theorem dX7_liesBetween_36 : decode cX7_liesBetween 36 = .ok (.iload_n 2, 1) := by decide +kernel
theorem dX7_liesBetween_37 : decode cX7_liesBetween 37 = .ok (.iaload, 1) := by decide +kernel
theorem dX7_liesBetween_38 : decode cX7_liesBetween 38 = .ok (.aload_n 0, 1) := by decide +kernel
theorem dX7_liesBetween_39 : decode cX7_liesBetween 39 = .ok (.getfield 35, 3) := by decide +kernel
theorem dX7_liesBetween_42 : decode cX7_liesBetween 42 = .ok (.iload_n 3, 1) := by decide +kernel
theorem dX7_liesBetween_43 : decode cX7_liesBetween 43 = .ok (.iaload, 1) := by decide +kernel
theorem dX7_liesBetween_44 : decode cX7_liesBetween 44 = .ok (.iadd, 1) := by decide +kernel
theorem dX7_liesBetween_45 : decode cX7_liesBetween 45 = .ok (.iload 4, 2) := by decide +kernel
theorem dX7_liesBetween_47 : decode cX7_liesBetween 47 = .ok (.if_icmp .ne 7, 3) := by decide +kernel
theorem dX7_liesBetween_50 : decode cX7_liesBetween 50 = .ok (.iconst 1, 1) := by decide +kernel
theorem dX7_liesBetween_51 : decode cX7_liesBetween 51 = .ok (.goto 4, 3) := by decide +kernel
theorem dX7_liesBetween_54 : decode cX7_liesBetween 54 = .ok (.iconst 0, 1) := by decide +kernel
theorem dX7_liesBetween_55 : decode cX7_liesBetween 55 = .ok (.ireturn, 1) := by decide +kernel
theorem dX7_meeting_0 : decode cX7_meeting 0 = .ok (.aload_n 0, 1) := by decide +kernel
theorem dX7_meeting_1 : decode cX7_meeting 1 = .ok (.iload_n 1, 1) := by decide +kernel
theorem dX7_meeting_2 : decode cX7_meeting 2 = .ok (.invokevirtual 128, 3) := by decide +kernel
theorem dX7_meeting_5 : decode cX7_meeting 5 = .ok (.ifCond .eq 19, 3) := by decide +kernel
theorem dX7_meeting_8 : decode cX7_meeting 8 = .ok (.aload_n 0, 1) := by decide +kernel
theorem dX7_meeting_9 : decode cX7_meeting 9 = .ok (.iload_n 2, 1) := by decide +kernel
theorem dX7_meeting_10 : decode cX7_meeting 10 = .ok (.invokevirtual 128, 3) := by decide +kernel
theorem dX7_meeting_13 : decode cX7_meeting 13 = .ok (.ifCond .eq 11, 3) := by decide +kernel
theorem dX7_meeting_16 : decode cX7_meeting 16 = .ok (.aload_n 0, 1) := by decide +kernel
theorem dX7_meeting_17 : decode cX7_meeting 17 = .ok (.iload_n 3, 1) := by decide +kernel
theorem dX7_meeting_18 : decode cX7_meeting 18 = .ok (.invokevirtual 128, 3) := by decide +kernel
theorem dX7_meeting_21 : decode cX7_meeting 21 = .ok (.ifCond .ne 5, 3) := by decide +kernel
theorem dX7_meeting_24 : decode cX7_meeting 24 = .ok (.iconst (-1), 1) := by decide +kernel
theorem dX7_meeting_25 : decode cX7_meeting 25 = .ok (.ireturn, 1) := by decide +kernel
theorem dX7_meeting_26 : decode cX7_meeting 26 = .ok (.aload_n 0, 1) := by decide +kernel
theorem dX7_meeting_27 : decode cX7_meeting 27 = .ok (.aload_n 0, 1) := by decide +kernel
theorem dX7_meeting_28 : decode cX7_meeting 28 = .ok (.getfield 13, 3) := by decide +kernel
theorem dX7_meeting_31 : decode cX7_meeting 31 = .ok (.iload_n 1, 1) := by decide +kernel
theorem dX7_meeting_32 : decode cX7_meeting 32 = .ok (.iload_n 2, 1) := by decide +kernel
theorem dX7_meeting_33 : decode cX7_meeting 33 = .ok (.invokevirtual 98, 3) := by decide +kernel
theorem dX7_meeting_36 : decode cX7_meeting 36 = .ok (.ifCond .eq 16, 3) := by decide +kernel
theorem dX7_meeting_39 : decode cX7_meeting 39 = .ok (.aload_n 0, 1) := by decide +kernel
theorem dX7_meeting_40 : decode cX7_meeting 40 = .ok (.aload_n 0, 1) := by decide +kernel
theorem dX7_meeting_41 : decode cX7_meeting 41 = .ok (.getfield 13, 3) := by decide +kernel
theorem dX7_meeting_44 : decode cX7_meeting 44 = .ok (.iload_n 1, 1) := by decide +kernel
theorem dX7_meeting_45 : decode cX7_meeting 45 = .ok (.iload_n 3, 1) := by decide +kernel
theorem dX7_meeting_46 : decode cX7_meeting 46 = .ok (.invokevirtual 98, 3) := by decide +kernel
theorem dX7_meeting_49 : decode cX7_meeting 49 = .ok (.ifCond .ne 6, 3) := by decide +kernel
theorem dX7_meeting_52 : decode cX7_meeting 52 = .ok (.bipush (-9), 2) := by decide +kernel
theorem dX7_meeting_54 : decode cX7_meeting 54 = .ok (.ireturn, 1) := by decide +kernel
theorem dX7_meeting_55 : decode cX7_meeting 55 = .ok (.iconst 0, 1) := by decide +kernel
theorem dX7_meeting_56 : decode cX7_meeting 56 = .ok (.istore 4, 2) := by decide +kernel
theorem dX7_meeting_58 : decode cX7_meeting 58 = .ok (.aload_n 0, 1) := by decide +kernel
theorem dX7_meeting_59 : decode cX7_meeting 59 = .ok (.iload 4, 2) := by decide +kernel
theorem dX7_meeting_61 : decode cX7_meeting 61 = .ok (.iload_n 1, 1) := by decide +kernel
theorem dX7_meeting_62 : decode cX7_meeting 62 = .ok (.iload_n 2, 1) := by decide +kernel
theorem dX7_meeting_63 : decode cX7_meeting 63 = .ok (.invokevirtual 154, 3) := by decide +kernel
theorem dX7_meeting_66 : decode cX7_meeting 66 = .ok (.ifCond .eq 25, 3) := by decide +kernel
theorem dX7_meeting_69 : decode cX7_meeting 69 = .ok (.aload_n 0, 1) := by decide +kernel
theorem dX7_meeting_70 : decode cX7_meeting 70 = .ok (.iload 4, 2) := by decide +kernel
theorem dX7_meeting_72 : decode cX7_meeting 72 = .ok (.iload_n 1, 1) := by decide +kernel
theorem dX7_meeting_73 : decode cX7_meeting 73 = .ok (.iload_n 3, 1) := by decide +kernel
theorem dX7_meeting_74 : decode cX7_meeting 74 = .ok (.invokevirtual 154, 3) := by decide +kernel
theorem dX7_meeting_77 : decode cX7_meeting 77 = .ok (.ifCond .eq 14, 3) := by decide +kernel
theorem dX7_meeting_80 : decode cX7_meeting 80 = .ok (.aload_n 0, 1) := by decide +kernel
theorem dX7_meeting_81 : decode cX7_meeting 81 = .ok (.iload 4, 2) := by decide +kernel
theorem dX7_meeting_83 : decode cX7_meeting 83 = .ok (.iload_n 2, 1) := by decide +kernel
theorem dX7_meeting_84 : decode cX7_meeting 84 = .ok (.iload_n 3, 1) := by decide +kernel
theorem dX7_meeting_85 : decode cX7_meeting 85 = .ok (.invokevirtual 154, 3) := by decide +kernel
theorem dX7_meeting_88 : decode cX7_meeting 88 = .ok (.ifCond .ne 9, 3) := by decide +kernel
theorem dX7_meeting_91 : decode cX7_meeting 91 = .ok (.iinc 4 1, 3) := by decide +kernel
theorem dX7_meeting_94 : decode cX7_meeting 94 = .ok (.goto (-36), 3) := by decide +kernel
theorem dX7_meeting_97 : decode cX7_meeting 97 = .ok (.iload 4, 2) := by decide +kernel
theorem dX7_meeting_99 : decode cX7_meeting 99 = .ok (.ireturn, 1) := by decide +kernel
theorem dX7_degreeOf_0 : decode cX7_degreeOf 0 = .ok (.iconst 0, 1) := by decide +kernel
theorem dX7_degreeOf_1 : decode cX7_degreeOf 1 = .ok (.istore_n 2, 1) := by decide +kernel
theorem dX7_degreeOf_2 : decode cX7_degreeOf 2 = .ok (.iconst 0, 1) := by decide +kernel
theorem dX7_degreeOf_3 : decode cX7_degreeOf 3 = .ok (.istore_n 3, 1) := by decide +kernel
theorem dX7_degreeOf_4 : decode cX7_degreeOf 4 = .ok (.iload_n 3, 1) := by decide +kernel
theorem dX7_degreeOf_5 : decode cX7_degreeOf 5 = .ok (.bipush 12, 2) := by decide +kernel
theorem dX7_degreeOf_7 : decode cX7_degreeOf 7 = .ok (.if_icmp .ge 31, 3) := by decide +kernel
theorem dX7_degreeOf_10 : decode cX7_degreeOf 10 = .ok (.iload_n 2, 1) := by decide +kernel
theorem dX7_degreeOf_11 : decode cX7_degreeOf 11 = .ok (.aload_n 0, 1) := by decide +kernel
theorem dX7_degreeOf_12 : decode cX7_degreeOf 12 = .ok (.getfield 44, 3) := by decide +kernel
theorem dX7_degreeOf_15 : decode cX7_degreeOf 15 = .ok (.bipush 12, 2) := by decide +kernel
theorem dX7_degreeOf_17 : decode cX7_degreeOf 17 = .ok (.iload_n 1, 1) := by decide +kernel
theorem dX7_degreeOf_18 : decode cX7_degreeOf 18 = .ok (.imul, 1) := by decide +kernel
theorem dX7_degreeOf_19 : decode cX7_degreeOf 19 = .ok (.iload_n 3, 1) := by decide +kernel
theorem dX7_degreeOf_20 : decode cX7_degreeOf 20 = .ok (.iadd, 1) := by decide +kernel
theorem dX7_degreeOf_21 : decode cX7_degreeOf 21 = .ok (.iaload, 1) := by decide +kernel
theorem dX7_degreeOf_22 : decode cX7_degreeOf 22 = .ok (.ifCond .le 7, 3) := by decide +kernel
theorem dX7_degreeOf_25 : decode cX7_degreeOf 25 = .ok (.iconst 1, 1) := by decide +kernel
theorem dX7_degreeOf_26 : decode cX7_degreeOf 26 = .ok (.goto 4, 3) := by decide +kernel
theorem dX7_degreeOf_29 : decode cX7_degreeOf 29 = .ok (.iconst 0, 1) := by decide +kernel
theorem dX7_degreeOf_30 : decode cX7_degreeOf 30 = .ok (.iadd, 1) := by decide +kernel
theorem dX7_degreeOf_31 : decode cX7_degreeOf 31 = .ok (.istore_n 2, 1) := by decide +kernel
theorem dX7_degreeOf_32 : decode cX7_degreeOf 32 = .ok (.iinc 3 1, 3) := by decide +kernel
theorem dX7_degreeOf_35 : decode cX7_degreeOf 35 = .ok (.goto (-31), 3) := by decide +kernel
theorem dX7_degreeOf_38 : decode cX7_degreeOf 38 = .ok (.iload_n 2, 1) := by decide +kernel
theorem dX7_degreeOf_39 : decode cX7_degreeOf 39 = .ok (.ireturn, 1) := by decide +kernel
theorem dX7_removeVertex_0 : decode cX7_removeVertex 0 = .ok (.aload_n 0, 1) := by decide +kernel
theorem dX7_removeVertex_1 : decode cX7_removeVertex 1 = .ok (.getfield 47, 3) := by decide +kernel
theorem dX7_removeVertex_4 : decode cX7_removeVertex 4 = .ok (.iload_n 1, 1) := by decide +kernel
theorem dX7_removeVertex_5 : decode cX7_removeVertex 5 = .ok (.iconst 0, 1) := by decide +kernel
theorem dX7_removeVertex_6 : decode cX7_removeVertex 6 = .ok (.bastore, 1) := by decide +kernel
theorem dX7_removeVertex_7 : decode cX7_removeVertex 7 = .ok (.aload_n 0, 1) := by decide +kernel
theorem dX7_removeVertex_8 : decode cX7_removeVertex 8 = .ok (.getfield 53, 3) := by decide +kernel
theorem dX7_removeVertex_11 : decode cX7_removeVertex 11 = .ok (.iload_n 1, 1) := by decide +kernel
theorem dX7_removeVertex_12 : decode cX7_removeVertex 12 = .ok (.iload_n 2, 1) := by decide +kernel
theorem dX7_removeVertex_13 : decode cX7_removeVertex 13 = .ok (.iastore, 1) := by decide +kernel
theorem dX7_removeVertex_14 : decode cX7_removeVertex 14 = .ok (.iconst 0, 1) := by decide +kernel
theorem dX7_removeVertex_15 : decode cX7_removeVertex 15 = .ok (.istore_n 3, 1) := by decide +kernel
theorem dX7_removeVertex_16 : decode cX7_removeVertex 16 = .ok (.iload_n 3, 1) := by decide +kernel
theorem dX7_removeVertex_17 : decode cX7_removeVertex 17 = .ok (.bipush 12, 2) := by decide +kernel
theorem dX7_removeVertex_19 : decode cX7_removeVertex 19 = .ok (.if_icmp .ge 33, 3) := by decide +kernel
theorem dX7_removeVertex_22 : decode cX7_removeVertex 22 = .ok (.aload_n 0, 1) := by decide +kernel
theorem dX7_removeVertex_23 : decode cX7_removeVertex 23 = .ok (.getfield 44, 3) := by decide +kernel
theorem dX7_removeVertex_26 : decode cX7_removeVertex 26 = .ok (.bipush 12, 2) := by decide +kernel
theorem dX7_removeVertex_28 : decode cX7_removeVertex 28 = .ok (.iload_n 1, 1) := by decide +kernel
theorem dX7_removeVertex_29 : decode cX7_removeVertex 29 = .ok (.imul, 1) := by decide +kernel
theorem dX7_removeVertex_30 : decode cX7_removeVertex 30 = .ok (.iload_n 3, 1) := by decide +kernel
theorem dX7_removeVertex_31 : decode cX7_removeVertex 31 = .ok (.iadd, 1) := by decide +kernel
theorem dX7_removeVertex_32 : decode cX7_removeVertex 32 = .ok (.iconst 0, 1) := by decide +kernel
theorem dX7_removeVertex_33 : decode cX7_removeVertex 33 = .ok (.iastore, 1) := by decide +kernel
theorem dX7_removeVertex_34 : decode cX7_removeVertex 34 = .ok (.aload_n 0, 1) := by decide +kernel
theorem dX7_removeVertex_35 : decode cX7_removeVertex 35 = .ok (.getfield 44, 3) := by decide +kernel
theorem dX7_removeVertex_38 : decode cX7_removeVertex 38 = .ok (.bipush 12, 2) := by decide +kernel
theorem dX7_removeVertex_40 : decode cX7_removeVertex 40 = .ok (.iload_n 3, 1) := by decide +kernel
theorem dX7_removeVertex_41 : decode cX7_removeVertex 41 = .ok (.imul, 1) := by decide +kernel
theorem dX7_removeVertex_42 : decode cX7_removeVertex 42 = .ok (.iload_n 1, 1) := by decide +kernel
theorem dX7_removeVertex_43 : decode cX7_removeVertex 43 = .ok (.iadd, 1) := by decide +kernel
theorem dX7_removeVertex_44 : decode cX7_removeVertex 44 = .ok (.iconst 0, 1) := by decide +kernel
theorem dX7_removeVertex_45 : decode cX7_removeVertex 45 = .ok (.iastore, 1) := by decide +kernel
theorem dX7_removeVertex_46 : decode cX7_removeVertex 46 = .ok (.iinc 3 1, 3) := by decide +kernel
theorem dX7_removeVertex_49 : decode cX7_removeVertex 49 = .ok (.goto (-33), 3) := by decide +kernel
theorem dX7_removeVertex_52 : decode cX7_removeVertex 52 = .ok (.return_, 1) := by decide +kernel
theorem dX7_neighbour_0 : decode cX7_neighbour 0 = .ok (.iload_n 2, 1) := by decide +kernel
theorem dX7_neighbour_1 : decode cX7_neighbour 1 = .ok (.iconst 1, 1) := by decide +kernel
theorem dX7_neighbour_2 : decode cX7_neighbour 2 = .ok (.iadd, 1) := by decide +kernel
theorem dX7_neighbour_3 : decode cX7_neighbour 3 = .ok (.istore_n 3, 1) := by decide +kernel
theorem dX7_neighbour_4 : decode cX7_neighbour 4 = .ok (.aload_n 0, 1) := by decide +kernel
theorem dX7_neighbour_5 : decode cX7_neighbour 5 = .ok (.getfield 44, 3) := by decide +kernel
theorem dX7_neighbour_8 : decode cX7_neighbour 8 = .ok (.bipush 12, 2) := by decide +kernel
theorem dX7_neighbour_10 : decode cX7_neighbour 10 = .ok (.iload_n 1, 1) := by decide +kernel
theorem dX7_neighbour_11 : decode cX7_neighbour 11 = .ok (.imul, 1) := by decide +kernel
theorem dX7_neighbour_12 : decode cX7_neighbour 12 = .ok (.iload_n 3, 1) := by decide +kernel
theorem dX7_neighbour_13 : decode cX7_neighbour 13 = .ok (.iadd, 1) := by decide +kernel
theorem dX7_neighbour_14 : decode cX7_neighbour 14 = .ok (.iaload, 1) := by decide +kernel
theorem dX7_neighbour_15 : decode cX7_neighbour 15 = .ok (.ifCond .ne 9, 3) := by decide +kernel
theorem dX7_neighbour_18 : decode cX7_neighbour 18 = .ok (.iinc 3 1, 3) := by decide +kernel
theorem dX7_neighbour_21 : decode cX7_neighbour 21 = .ok (.goto (-17), 3) := by decide +kernel
theorem dX7_neighbour_24 : decode cX7_neighbour 24 = .ok (.iload_n 3, 1) := by decide +kernel
theorem dX7_neighbour_25 : decode cX7_neighbour 25 = .ok (.ireturn, 1) := by decide +kernel
theorem dX7_many_0 : decode cX7_many 0 = .ok (.iconst 0, 1) := by decide +kernel
theorem dX7_many_1 : decode cX7_many 1 = .ok (.istore_n 1, 1) := by decide +kernel
theorem dX7_many_2 : decode cX7_many 2 = .ok (.iconst 0, 1) := by decide +kernel
theorem dX7_many_3 : decode cX7_many 3 = .ok (.istore_n 2, 1) := by decide +kernel
theorem dX7_many_4 : decode cX7_many 4 = .ok (.iload_n 2, 1) := by decide +kernel
theorem dX7_many_5 : decode cX7_many 5 = .ok (.bipush 12, 2) := by decide +kernel
theorem dX7_many_7 : decode cX7_many 7 = .ok (.if_icmp .ge 26, 3) := by decide +kernel
theorem dX7_many_10 : decode cX7_many 10 = .ok (.iload_n 1, 1) := by decide +kernel
theorem dX7_many_11 : decode cX7_many 11 = .ok (.aload_n 0, 1) := by decide +kernel
theorem dX7_many_12 : decode cX7_many 12 = .ok (.getfield 47, 3) := by decide +kernel
theorem dX7_many_15 : decode cX7_many 15 = .ok (.iload_n 2, 1) := by decide +kernel
theorem dX7_many_16 : decode cX7_many 16 = .ok (.baload, 1) := by decide +kernel
theorem dX7_many_17 : decode cX7_many 17 = .ok (.ifCond .eq 7, 3) := by decide +kernel
theorem dX7_many_20 : decode cX7_many 20 = .ok (.iconst 1, 1) := by decide +kernel
theorem dX7_many_21 : decode cX7_many 21 = .ok (.goto 4, 3) := by decide +kernel
theorem dX7_many_24 : decode cX7_many 24 = .ok (.iconst 0, 1) := by decide +kernel
theorem dX7_many_25 : decode cX7_many 25 = .ok (.iadd, 1) := by decide +kernel
theorem dX7_many_26 : decode cX7_many 26 = .ok (.istore_n 1, 1) := by decide +kernel
theorem dX7_many_27 : decode cX7_many 27 = .ok (.iinc 2 1, 3) := by decide +kernel
theorem dX7_many_30 : decode cX7_many 30 = .ok (.goto (-26), 3) := by decide +kernel
theorem dX7_many_33 : decode cX7_many 33 = .ok (.iload_n 1, 1) := by decide +kernel
theorem dX7_many_34 : decode cX7_many 34 = .ok (.ireturn, 1) := by decide +kernel
theorem dX7_rake_0 : decode cX7_rake 0 = .ok (.aload_n 0, 1) := by decide +kernel
theorem dX7_rake_1 : decode cX7_rake 1 = .ok (.invokevirtual 158, 3) := by decide +kernel
theorem dX7_rake_4 : decode cX7_rake 4 = .ok (.iconst 2, 1) := by decide +kernel
theorem dX7_rake_5 : decode cX7_rake 5 = .ok (.if_icmp .ne 7, 3) := by decide +kernel
theorem dX7_rake_8 : decode cX7_rake 8 = .ok (.iconst 1, 1) := by decide +kernel
theorem dX7_rake_9 : decode cX7_rake 9 = .ok (.goto 4, 3) := by decide +kernel
theorem dX7_rake_12 : decode cX7_rake 12 = .ok (.iconst 0, 1) := by decide +kernel
theorem dX7_rake_13 : decode cX7_rake 13 = .ok (.istore_n 2, 1) := by decide +kernel
theorem dX7_rake_14 : decode cX7_rake 14 = .ok (.iconst 1, 1) := by decide +kernel
theorem dX7_rake_15 : decode cX7_rake 15 = .ok (.istore_n 3, 1) := by decide +kernel
theorem dX7_rake_16 : decode cX7_rake 16 = .ok (.iconst 0, 1) := by decide +kernel
theorem dX7_rake_17 : decode cX7_rake 17 = .ok (.istore 4, 2) := by decide +kernel
theorem dX7_rake_19 : decode cX7_rake 19 = .ok (.iload 4, 2) := by decide +kernel
theorem dX7_rake_21 : decode cX7_rake 21 = .ok (.bipush 12, 2) := by decide +kernel
theorem dX7_rake_23 : decode cX7_rake 23 = .ok (.if_icmp .ge 69, 3) := by decide +kernel
theorem dX7_rake_26 : decode cX7_rake 26 = .ok (.aload_n 0, 1) := by decide +kernel
theorem dX7_rake_27 : decode cX7_rake 27 = .ok (.getfield 50, 3) := by decide +kernel
theorem dX7_rake_30 : decode cX7_rake 30 = .ok (.iload 4, 2) := by decide +kernel
theorem dX7_rake_32 : decode cX7_rake 32 = .ok (.aload_n 0, 1) := by decide +kernel
theorem dX7_rake_33 : decode cX7_rake 33 = .ok (.getfield 47, 3) := by decide +kernel
theorem dX7_rake_36 : decode cX7_rake 36 = .ok (.iload 4, 2) := by decide +kernel
theorem dX7_rake_38 : decode cX7_rake 38 = .ok (.baload, 1) := by decide +kernel
theorem dX7_rake_39 : decode cX7_rake 39 = .ok (.ifCond .eq 17, 3) := by decide +kernel
theorem dX7_rake_42 : decode cX7_rake 42 = .ok (.aload_n 0, 1) := by decide +kernel
theorem dX7_rake_43 : decode cX7_rake 43 = .ok (.iload 4, 2) := by decide +kernel
theorem dX7_rake_45 : decode cX7_rake 45 = .ok (.invokevirtual 161, 3) := by decide +kernel
theorem dX7_rake_48 : decode cX7_rake 48 = .ok (.iconst 1, 1) := by decide +kernel
theorem dX7_rake_49 : decode cX7_rake 49 = .ok (.if_icmp .ne 7, 3) := by decide +kernel
theorem dX7_rake_52 : decode cX7_rake 52 = .ok (.iconst 1, 1) := by decide +kernel
theorem dX7_rake_53 : decode cX7_rake 53 = .ok (.goto 4, 3) := by decide +kernel
theorem dX7_rake_56 : decode cX7_rake 56 = .ok (.iconst 0, 1) := by decide +kernel
theorem dX7_rake_57 : decode cX7_rake 57 = .ok (.bastore, 1) := by decide +kernel
theorem dX7_rake_58 : decode cX7_rake 58 = .ok (.aload_n 0, 1) := by decide +kernel
theorem dX7_rake_59 : decode cX7_rake 59 = .ok (.getfield 50, 3) := by decide +kernel
theorem dX7_rake_62 : decode cX7_rake 62 = .ok (.iload 4, 2) := by decide +kernel
theorem dX7_rake_64 : decode cX7_rake 64 = .ok (.baload, 1) := by decide +kernel
theorem dX7_rake_65 : decode cX7_rake 65 = .ok (.ifCond .eq 21, 3) := by decide +kernel
theorem dX7_rake_68 : decode cX7_rake 68 = .ok (.iload_n 2, 1) := by decide +kernel
theorem dX7_rake_69 : decode cX7_rake 69 = .ok (.ifCond .eq 17, 3) := by decide +kernel
theorem dX7_rake_72 : decode cX7_rake 72 = .ok (.iload_n 3, 1) := by decide +kernel
theorem dX7_rake_73 : decode cX7_rake 73 = .ok (.ifCond .eq 13, 3) := by decide +kernel
theorem dX7_rake_76 : decode cX7_rake 76 = .ok (.iconst 0, 1) := by decide +kernel
theorem dX7_rake_77 : decode cX7_rake 77 = .ok (.istore_n 3, 1) := by decide +kernel
theorem dX7_rake_78 : decode cX7_rake 78 = .ok (.aload_n 0, 1) := by decide +kernel
theorem dX7_rake_79 : decode cX7_rake 79 = .ok (.getfield 50, 3) := by decide +kernel
theorem dX7_rake_82 : decode cX7_rake 82 = .ok (.iload 4, 2) := by decide +kernel
theorem dX7_rake_84 : decode cX7_rake 84 = .ok (.iconst 0, 1) := by decide +kernel
theorem dX7_rake_85 : decode cX7_rake 85 = .ok (.bastore, 1) := by decide +kernel
theorem dX7_rake_86 : decode cX7_rake 86 = .ok (.iinc 4 1, 3) := by decide +kernel
theorem dX7_rake_89 : decode cX7_rake 89 = .ok (.goto (-70), 3) := by decide +kernel
theorem dX7_rake_92 : decode cX7_rake 92 = .ok (.iconst 0, 1) := by decide +kernel
theorem dX7_rake_93 : decode cX7_rake 93 = .ok (.istore 4, 2) := by decide +kernel
theorem dX7_rake_95 : decode cX7_rake 95 = .ok (.iload 4, 2) := by decide +kernel
theorem dX7_rake_97 : decode cX7_rake 97 = .ok (.bipush 12, 2) := by decide +kernel
theorem dX7_rake_99 : decode cX7_rake 99 = .ok (.if_icmp .ge 26, 3) := by decide +kernel
theorem dX7_rake_102 : decode cX7_rake 102 = .ok (.aload_n 0, 1) := by decide +kernel
theorem dX7_rake_103 : decode cX7_rake 103 = .ok (.getfield 50, 3) := by decide +kernel
theorem dX7_rake_106 : decode cX7_rake 106 = .ok (.iload 4, 2) := by decide +kernel
theorem dX7_rake_108 : decode cX7_rake 108 = .ok (.baload, 1) := by decide +kernel
theorem dX7_rake_109 : decode cX7_rake 109 = .ok (.ifCond .eq 10, 3) := by decide +kernel
theorem dX7_rake_112 : decode cX7_rake 112 = .ok (.aload_n 0, 1) := by decide +kernel
theorem dX7_rake_113 : decode cX7_rake 113 = .ok (.iload 4, 2) := by decide +kernel
theorem dX7_rake_115 : decode cX7_rake 115 = .ok (.iload_n 1, 1) := by decide +kernel
theorem dX7_rake_116 : decode cX7_rake 116 = .ok (.invokevirtual 165, 3) := by decide +kernel
theorem dX7_rake_119 : decode cX7_rake 119 = .ok (.iinc 4 1, 3) := by decide +kernel
theorem dX7_rake_122 : decode cX7_rake 122 = .ok (.goto (-27), 3) := by decide +kernel
theorem dX7_rake_125 : decode cX7_rake 125 = .ok (.return_, 1) := by decide +kernel
theorem dX7_compress_0 : decode cX7_compress 0 = .ok (.iconst 0, 1) := by decide +kernel
theorem dX7_compress_1 : decode cX7_compress 1 = .ok (.istore_n 2, 1) := by decide +kernel
theorem dX7_compress_2 : decode cX7_compress 2 = .ok (.iload_n 2, 1) := by decide +kernel
theorem dX7_compress_3 : decode cX7_compress 3 = .ok (.sipush 144, 3) := by decide +kernel
theorem dX7_compress_6 : decode cX7_compress 6 = .ok (.if_icmp .ge 29, 3) := by decide +kernel
theorem dX7_compress_9 : decode cX7_compress 9 = .ok (.aload_n 0, 1) := by decide +kernel
theorem dX7_compress_10 : decode cX7_compress 10 = .ok (.getfield 44, 3) := by decide +kernel
theorem dX7_compress_13 : decode cX7_compress 13 = .ok (.iload_n 2, 1) := by decide +kernel
theorem dX7_compress_14 : decode cX7_compress 14 = .ok (.aload_n 0, 1) := by decide +kernel
theorem dX7_compress_15 : decode cX7_compress 15 = .ok (.getfield 44, 3) := by decide +kernel
theorem dX7_compress_18 : decode cX7_compress 18 = .ok (.iload_n 2, 1) := by decide +kernel
theorem dX7_compress_19 : decode cX7_compress 19 = .ok (.iaload, 1) := by decide +kernel
theorem dX7_compress_20 : decode cX7_compress 20 = .ok (.ifCond .le 7, 3) := by decide +kernel
theorem dX7_compress_23 : decode cX7_compress 23 = .ok (.iconst 1, 1) := by decide +kernel
theorem dX7_compress_24 : decode cX7_compress 24 = .ok (.goto 4, 3) := by decide +kernel
theorem dX7_compress_27 : decode cX7_compress 27 = .ok (.iconst 0, 1) := by decide +kernel
theorem dX7_compress_28 : decode cX7_compress 28 = .ok (.iastore, 1) := by decide +kernel
theorem dX7_compress_29 : decode cX7_compress 29 = .ok (.iinc 2 1, 3) := by decide +kernel
theorem dX7_compress_32 : decode cX7_compress 32 = .ok (.goto (-30), 3) := by decide +kernel
theorem dX7_compress_35 : decode cX7_compress 35 = .ok (.iconst 0, 1) := by decide +kernel
theorem dX7_compress_36 : decode cX7_compress 36 = .ok (.istore_n 2, 1) := by decide +kernel
theorem dX7_compress_37 : decode cX7_compress 37 = .ok (.iload_n 2, 1) := by decide +kernel
theorem dX7_compress_38 : decode cX7_compress 38 = .ok (.bipush 12, 2) := by decide +kernel
theorem dX7_compress_40 : decode cX7_compress 40 = .ok (.if_icmp .ge 105, 3) := by decide +kernel
theorem dX7_compress_43 : decode cX7_compress 43 = .ok (.aload_n 0, 1) := by decide +kernel
theorem dX7_compress_44 : decode cX7_compress 44 = .ok (.getfield 47, 3) := by decide +kernel
theorem dX7_compress_47 : decode cX7_compress 47 = .ok (.iload_n 2, 1) := by decide +kernel
theorem dX7_compress_48 : decode cX7_compress 48 = .ok (.baload, 1) := by decide +kernel
theorem dX7_compress_49 : decode cX7_compress 49 = .ok (.ifCond .eq 90, 3) := by decide +kernel
theorem dX7_compress_52 : decode cX7_compress 52 = .ok (.aload_n 0, 1) := by decide +kernel
theorem dX7_compress_53 : decode cX7_compress 53 = .ok (.iload_n 2, 1) := by decide +kernel
theorem dX7_compress_54 : decode cX7_compress 54 = .ok (.invokevirtual 161, 3) := by decide +kernel
theorem dX7_compress_57 : decode cX7_compress 57 = .ok (.iconst 2, 1) := by decide +kernel
theorem dX7_compress_58 : decode cX7_compress 58 = .ok (.if_icmp .ne 81, 3) := by decide +kernel
theorem dX7_compress_61 : decode cX7_compress 61 = .ok (.aload_n 0, 1) := by decide +kernel
theorem dX7_compress_62 : decode cX7_compress 62 = .ok (.iload_n 2, 1) := by decide +kernel
theorem dX7_compress_63 : decode cX7_compress 63 = .ok (.iconst (-1), 1) := by decide +kernel
theorem dX7_compress_64 : decode cX7_compress 64 = .ok (.invokevirtual 169, 3) := by decide +kernel
theorem dX7_compress_67 : decode cX7_compress 67 = .ok (.istore_n 3, 1) := by decide +kernel
theorem dX7_compress_68 : decode cX7_compress 68 = .ok (.aload_n 0, 1) := by decide +kernel
theorem dX7_compress_69 : decode cX7_compress 69 = .ok (.iload_n 2, 1) := by decide +kernel
theorem dX7_compress_70 : decode cX7_compress 70 = .ok (.iload_n 3, 1) := by decide +kernel
theorem dX7_compress_71 : decode cX7_compress 71 = .ok (.invokevirtual 169, 3) := by decide +kernel
theorem dX7_compress_74 : decode cX7_compress 74 = .ok (.istore 4, 2) := by decide +kernel
theorem dX7_compress_76 : decode cX7_compress 76 = .ok (.aload_n 0, 1) := by decide +kernel
theorem dX7_compress_77 : decode cX7_compress 77 = .ok (.getfield 44, 3) := by decide +kernel
theorem dX7_compress_80 : decode cX7_compress 80 = .ok (.bipush 12, 2) := by decide +kernel
theorem dX7_compress_82 : decode cX7_compress 82 = .ok (.iload_n 2, 1) := by decide +kernel
theorem dX7_compress_83 : decode cX7_compress 83 = .ok (.imul, 1) := by decide +kernel
theorem dX7_compress_84 : decode cX7_compress 84 = .ok (.iload_n 3, 1) := by decide +kernel
theorem dX7_compress_85 : decode cX7_compress 85 = .ok (.iadd, 1) := by decide +kernel
theorem dX7_compress_86 : decode cX7_compress 86 = .ok (.iaload, 1) := by decide +kernel
theorem dX7_compress_87 : decode cX7_compress 87 = .ok (.iconst 1, 1) := by decide +kernel
theorem dX7_compress_88 : decode cX7_compress 88 = .ok (.if_icmp .ne 51, 3) := by decide +kernel
theorem dX7_compress_91 : decode cX7_compress 91 = .ok (.aload_n 0, 1) := by decide +kernel
theorem dX7_compress_92 : decode cX7_compress 92 = .ok (.getfield 44, 3) := by decide +kernel
theorem dX7_compress_95 : decode cX7_compress 95 = .ok (.bipush 12, 2) := by decide +kernel
theorem dX7_compress_97 : decode cX7_compress 97 = .ok (.iload_n 2, 1) := by decide +kernel
theorem dX7_compress_98 : decode cX7_compress 98 = .ok (.imul, 1) := by decide +kernel
theorem dX7_compress_99 : decode cX7_compress 99 = .ok (.iload 4, 2) := by decide +kernel
theorem dX7_compress_101 : decode cX7_compress 101 = .ok (.iadd, 1) := by decide +kernel
theorem dX7_compress_102 : decode cX7_compress 102 = .ok (.iaload, 1) := by decide +kernel
theorem dX7_compress_103 : decode cX7_compress 103 = .ok (.iconst 1, 1) := by decide +kernel
theorem dX7_compress_104 : decode cX7_compress 104 = .ok (.if_icmp .ne 35, 3) := by decide +kernel
theorem dX7_compress_107 : decode cX7_compress 107 = .ok (.aload_n 0, 1) := by decide +kernel
theorem dX7_compress_108 : decode cX7_compress 108 = .ok (.iload_n 2, 1) := by decide +kernel
theorem dX7_compress_109 : decode cX7_compress 109 = .ok (.iload_n 1, 1) := by decide +kernel
theorem dX7_compress_110 : decode cX7_compress 110 = .ok (.invokevirtual 165, 3) := by decide +kernel
theorem dX7_compress_113 : decode cX7_compress 113 = .ok (.aload_n 0, 1) := by decide +kernel
theorem dX7_compress_114 : decode cX7_compress 114 = .ok (.getfield 44, 3) := by decide +kernel
theorem dX7_compress_117 : decode cX7_compress 117 = .ok (.bipush 12, 2) := by decide +kernel
theorem dX7_compress_119 : decode cX7_compress 119 = .ok (.iload_n 3, 1) := by decide +kernel
theorem dX7_compress_120 : decode cX7_compress 120 = .ok (.imul, 1) := by decide +kernel
theorem dX7_compress_121 : decode cX7_compress 121 = .ok (.iload 4, 2) := by decide +kernel
theorem dX7_compress_123 : decode cX7_compress 123 = .ok (.iadd, 1) := by decide +kernel
theorem dX7_compress_124 : decode cX7_compress 124 = .ok (.iconst 2, 1) := by decide +kernel
theorem dX7_compress_125 : decode cX7_compress 125 = .ok (.iastore, 1) := by decide +kernel
theorem dX7_compress_126 : decode cX7_compress 126 = .ok (.aload_n 0, 1) := by decide +kernel
theorem dX7_compress_127 : decode cX7_compress 127 = .ok (.getfield 44, 3) := by decide +kernel
theorem dX7_compress_130 : decode cX7_compress 130 = .ok (.bipush 12, 2) := by decide +kernel
theorem dX7_compress_132 : decode cX7_compress 132 = .ok (.iload 4, 2) := by decide +kernel
theorem dX7_compress_134 : decode cX7_compress 134 = .ok (.imul, 1) := by decide +kernel
theorem dX7_compress_135 : decode cX7_compress 135 = .ok (.iload_n 3, 1) := by decide +kernel
theorem dX7_compress_136 : decode cX7_compress 136 = .ok (.iadd, 1) := by decide +kernel
theorem dX7_compress_137 : decode cX7_compress 137 = .ok (.iconst 2, 1) := by decide +kernel
theorem dX7_compress_138 : decode cX7_compress 138 = .ok (.iastore, 1) := by decide +kernel
theorem dX7_compress_139 : decode cX7_compress 139 = .ok (.iinc 2 1, 3) := by decide +kernel
theorem dX7_compress_142 : decode cX7_compress 142 = .ok (.goto (-105), 3) := by decide +kernel
theorem dX7_compress_145 : decode cX7_compress 145 = .ok (.return_, 1) := by decide +kernel
theorem dX7_contract_0 : decode cX7_contract 0 = .ok (.aload_n 0, 1) := by decide +kernel
theorem dX7_contract_1 : decode cX7_contract 1 = .ok (.aload_n 1, 1) := by decide +kernel
theorem dX7_contract_2 : decode cX7_contract 2 = .ok (.iload_n 2, 1) := by decide +kernel
theorem dX7_contract_3 : decode cX7_contract 3 = .ok (.invokevirtual 68, 3) := by decide +kernel
theorem dX7_contract_6 : decode cX7_contract 6 = .ok (.iconst 0, 1) := by decide +kernel
theorem dX7_contract_7 : decode cX7_contract 7 = .ok (.istore_n 3, 1) := by decide +kernel
theorem dX7_contract_8 : decode cX7_contract 8 = .ok (.iload_n 3, 1) := by decide +kernel
theorem dX7_contract_9 : decode cX7_contract 9 = .ok (.bipush 12, 2) := by decide +kernel
theorem dX7_contract_11 : decode cX7_contract 11 = .ok (.if_icmp .ge 39, 3) := by decide +kernel
theorem dX7_contract_14 : decode cX7_contract 14 = .ok (.aload_n 0, 1) := by decide +kernel
theorem dX7_contract_15 : decode cX7_contract 15 = .ok (.getfield 47, 3) := by decide +kernel
theorem dX7_contract_18 : decode cX7_contract 18 = .ok (.iload_n 3, 1) := by decide +kernel
theorem dX7_contract_19 : decode cX7_contract 19 = .ok (.aload_n 0, 1) := by decide +kernel
theorem dX7_contract_20 : decode cX7_contract 20 = .ok (.getfield 35, 3) := by decide +kernel
theorem dX7_contract_23 : decode cX7_contract 23 = .ok (.iload_n 3, 1) := by decide +kernel
theorem dX7_contract_24 : decode cX7_contract 24 = .ok (.iaload, 1) := by decide +kernel
theorem dX7_contract_25 : decode cX7_contract 25 = .ok (.bipush (-9), 2) := by decide +kernel
theorem dX7_contract_27 : decode cX7_contract 27 = .ok (.if_icmp .eq 7, 3) := by decide +kernel
theorem dX7_contract_30 : decode cX7_contract 30 = .ok (.iconst 1, 1) := by decide +kernel
theorem dX7_contract_31 : decode cX7_contract 31 = .ok (.goto 4, 3) := by decide +kernel
theorem dX7_contract_34 : decode cX7_contract 34 = .ok (.iconst 0, 1) := by decide +kernel
theorem dX7_contract_35 : decode cX7_contract 35 = .ok (.bastore, 1) := by decide +kernel
theorem dX7_contract_36 : decode cX7_contract 36 = .ok (.aload_n 0, 1) := by decide +kernel
theorem dX7_contract_37 : decode cX7_contract 37 = .ok (.getfield 53, 3) := by decide +kernel
theorem dX7_contract_40 : decode cX7_contract 40 = .ok (.iload_n 3, 1) := by decide +kernel
theorem dX7_contract_41 : decode cX7_contract 41 = .ok (.bipush (-9), 2) := by decide +kernel
theorem dX7_contract_43 : decode cX7_contract 43 = .ok (.iastore, 1) := by decide +kernel
theorem dX7_contract_44 : decode cX7_contract 44 = .ok (.iinc 3 1, 3) := by decide +kernel
theorem dX7_contract_47 : decode cX7_contract 47 = .ok (.goto (-39), 3) := by decide +kernel
theorem dX7_contract_50 : decode cX7_contract 50 = .ok (.iconst 0, 1) := by decide +kernel
theorem dX7_contract_51 : decode cX7_contract 51 = .ok (.istore_n 3, 1) := by decide +kernel
theorem dX7_contract_52 : decode cX7_contract 52 = .ok (.iload_n 3, 1) := by decide +kernel
theorem dX7_contract_53 : decode cX7_contract 53 = .ok (.bipush 12, 2) := by decide +kernel
theorem dX7_contract_55 : decode cX7_contract 55 = .ok (.if_icmp .ge 62, 3) := by decide +kernel
theorem dX7_contract_58 : decode cX7_contract 58 = .ok (.iconst 0, 1) := by decide +kernel
theorem dX7_contract_59 : decode cX7_contract 59 = .ok (.istore 4, 2) := by decide +kernel
theorem dX7_contract_61 : decode cX7_contract 61 = .ok (.iload 4, 2) := by decide +kernel
theorem dX7_contract_63 : decode cX7_contract 63 = .ok (.bipush 12, 2) := by decide +kernel
theorem dX7_contract_65 : decode cX7_contract 65 = .ok (.if_icmp .ge 46, 3) := by decide +kernel
theorem dX7_contract_68 : decode cX7_contract 68 = .ok (.aload_n 0, 1) := by decide +kernel
theorem dX7_contract_69 : decode cX7_contract 69 = .ok (.getfield 44, 3) := by decide +kernel
theorem dX7_contract_72 : decode cX7_contract 72 = .ok (.bipush 12, 2) := by decide +kernel
theorem dX7_contract_74 : decode cX7_contract 74 = .ok (.iload_n 3, 1) := by decide +kernel
theorem dX7_contract_75 : decode cX7_contract 75 = .ok (.imul, 1) := by decide +kernel
theorem dX7_contract_76 : decode cX7_contract 76 = .ok (.iload 4, 2) := by decide +kernel
theorem dX7_contract_78 : decode cX7_contract 78 = .ok (.iadd, 1) := by decide +kernel
theorem dX7_contract_79 : decode cX7_contract 79 = .ok (.aload_n 0, 1) := by decide +kernel
theorem dX7_contract_80 : decode cX7_contract 80 = .ok (.getfield 47, 3) := by decide +kernel
theorem dX7_contract_83 : decode cX7_contract 83 = .ok (.iload_n 3, 1) := by decide +kernel
theorem dX7_contract_84 : decode cX7_contract 84 = .ok (.baload, 1) := by decide +kernel
theorem dX7_contract_85 : decode cX7_contract 85 = .ok (.ifCond .eq 18, 3) := by decide +kernel
theorem dX7_contract_88 : decode cX7_contract 88 = .ok (.aload_n 1, 1) := by decide +kernel
theorem dX7_contract_89 : decode cX7_contract 89 = .ok (.iload_n 3, 1) := by decide +kernel
theorem dX7_contract_90 : decode cX7_contract 90 = .ok (.iload 4, 2) := by decide +kernel
theorem dX7_contract_92 : decode cX7_contract 92 = .ok (.invokestatic 64, 3) := by decide +kernel
theorem dX7_contract_95 : decode cX7_contract 95 = .ok (.iaload, 1) := by decide +kernel
theorem dX7_contract_96 : decode cX7_contract 96 = .ok (.ifCond .le 7, 3) := by decide +kernel
theorem dX7_contract_99 : decode cX7_contract 99 = .ok (.iconst 1, 1) := by decide +kernel
theorem dX7_contract_100 : decode cX7_contract 100 = .ok (.goto 4, 3) := by decide +kernel
theorem dX7_contract_103 : decode cX7_contract 103 = .ok (.iconst 0, 1) := by decide +kernel
theorem dX7_contract_104 : decode cX7_contract 104 = .ok (.iastore, 1) := by decide +kernel
theorem dX7_contract_105 : decode cX7_contract 105 = .ok (.iinc 4 1, 3) := by decide +kernel
theorem dX7_contract_108 : decode cX7_contract 108 = .ok (.goto (-47), 3) := by decide +kernel
theorem dX7_contract_111 : decode cX7_contract 111 = .ok (.iinc 3 1, 3) := by decide +kernel
theorem dX7_contract_114 : decode cX7_contract 114 = .ok (.goto (-62), 3) := by decide +kernel
theorem dX7_contract_117 : decode cX7_contract 117 = .ok (.aload_n 0, 1) := by decide +kernel
theorem dX7_contract_118 : decode cX7_contract 118 = .ok (.iconst 0, 1) := by decide +kernel
theorem dX7_contract_119 : decode cX7_contract 119 = .ok (.putfield 172, 3) := by decide +kernel
theorem dX7_contract_122 : decode cX7_contract 122 = .ok (.aload_n 0, 1) := by decide +kernel
theorem dX7_contract_123 : decode cX7_contract 123 = .ok (.invokevirtual 158, 3) := by decide +kernel
theorem dX7_contract_126 : decode cX7_contract 126 = .ok (.iconst 1, 1) := by decide +kernel
theorem dX7_contract_127 : decode cX7_contract 127 = .ok (.if_icmp .le 32, 3) := by decide +kernel
theorem dX7_contract_130 : decode cX7_contract 130 = .ok (.aload_n 0, 1) := by decide +kernel
theorem dX7_contract_131 : decode cX7_contract 131 = .ok (.dup, 1) := by decide +kernel
theorem dX7_contract_132 : decode cX7_contract 132 = .ok (.getfield 172, 3) := by decide +kernel
theorem dX7_contract_135 : decode cX7_contract 135 = .ok (.iconst 1, 1) := by decide +kernel
theorem dX7_contract_136 : decode cX7_contract 136 = .ok (.iadd, 1) := by decide +kernel
theorem dX7_contract_137 : decode cX7_contract 137 = .ok (.putfield 172, 3) := by decide +kernel
theorem dX7_contract_140 : decode cX7_contract 140 = .ok (.aload_n 0, 1) := by decide +kernel
theorem dX7_contract_141 : decode cX7_contract 141 = .ok (.aload_n 0, 1) := by decide +kernel
theorem dX7_contract_142 : decode cX7_contract 142 = .ok (.getfield 172, 3) := by decide +kernel
theorem dX7_contract_145 : decode cX7_contract 145 = .ok (.invokevirtual 175, 3) := by decide +kernel
theorem dX7_contract_148 : decode cX7_contract 148 = .ok (.aload_n 0, 1) := by decide +kernel
theorem dX7_contract_149 : decode cX7_contract 149 = .ok (.aload_n 0, 1) := by decide +kernel
theorem dX7_contract_150 : decode cX7_contract 150 = .ok (.getfield 172, 3) := by decide +kernel
theorem dX7_contract_153 : decode cX7_contract 153 = .ok (.invokevirtual 179, 3) := by decide +kernel
theorem dX7_contract_156 : decode cX7_contract 156 = .ok (.goto (-34), 3) := by decide +kernel
theorem dX7_contract_159 : decode cX7_contract 159 = .ok (.aload_n 0, 1) := by decide +kernel
theorem dX7_contract_160 : decode cX7_contract 160 = .ok (.iconst 0, 1) := by decide +kernel
theorem dX7_contract_161 : decode cX7_contract 161 = .ok (.putfield 182, 3) := by decide +kernel
theorem dX7_contract_164 : decode cX7_contract 164 = .ok (.aload_n 0, 1) := by decide +kernel
theorem dX7_contract_165 : decode cX7_contract 165 = .ok (.getfield 47, 3) := by decide +kernel
theorem dX7_contract_168 : decode cX7_contract 168 = .ok (.aload_n 0, 1) := by decide +kernel
theorem dX7_contract_169 : decode cX7_contract 169 = .ok (.getfield 182, 3) := by decide +kernel
theorem dX7_contract_172 : decode cX7_contract 172 = .ok (.baload, 1) := by decide +kernel
theorem dX7_contract_173 : decode cX7_contract 173 = .ok (.ifCond .ne 16, 3) := by decide +kernel
theorem dX7_contract_176 : decode cX7_contract 176 = .ok (.aload_n 0, 1) := by decide +kernel
theorem dX7_contract_177 : decode cX7_contract 177 = .ok (.dup, 1) := by decide +kernel
theorem dX7_contract_178 : decode cX7_contract 178 = .ok (.getfield 182, 3) := by decide +kernel
theorem dX7_contract_181 : decode cX7_contract 181 = .ok (.iconst 1, 1) := by decide +kernel
theorem dX7_contract_182 : decode cX7_contract 182 = .ok (.iadd, 1) := by decide +kernel
theorem dX7_contract_183 : decode cX7_contract 183 = .ok (.putfield 182, 3) := by decide +kernel
theorem dX7_contract_186 : decode cX7_contract 186 = .ok (.goto (-22), 3) := by decide +kernel
theorem dX7_contract_189 : decode cX7_contract 189 = .ok (.return_, 1) := by decide +kernel
theorem dX7_rounds_0 : decode cX7_rounds 0 = .ok (.aload_n 0, 1) := by decide +kernel
theorem dX7_rounds_1 : decode cX7_rounds 1 = .ok (.iload_n 1, 1) := by decide +kernel
theorem dX7_rounds_2 : decode cX7_rounds 2 = .ok (.invokevirtual 128, 3) := by decide +kernel
theorem dX7_rounds_5 : decode cX7_rounds 5 = .ok (.ifCond .ne 5, 3) := by decide +kernel
theorem dX7_rounds_8 : decode cX7_rounds 8 = .ok (.iconst (-1), 1) := by decide +kernel
theorem dX7_rounds_9 : decode cX7_rounds 9 = .ok (.ireturn, 1) := by decide +kernel
theorem dX7_rounds_10 : decode cX7_rounds 10 = .ok (.aload_n 0, 1) := by decide +kernel
theorem dX7_rounds_11 : decode cX7_rounds 11 = .ok (.aload_n 0, 1) := by decide +kernel
theorem dX7_rounds_12 : decode cX7_rounds 12 = .ok (.getfield 13, 3) := by decide +kernel
theorem dX7_rounds_15 : decode cX7_rounds 15 = .ok (.iload_n 1, 1) := by decide +kernel
theorem dX7_rounds_16 : decode cX7_rounds 16 = .ok (.invokevirtual 185, 3) := by decide +kernel
theorem dX7_rounds_19 : decode cX7_rounds 19 = .ok (.aload_n 0, 1) := by decide +kernel
theorem dX7_rounds_20 : decode cX7_rounds 20 = .ok (.getfield 172, 3) := by decide +kernel
theorem dX7_rounds_23 : decode cX7_rounds 23 = .ok (.ireturn, 1) := by decide +kernel
theorem dX7_removalRound_0 : decode cX7_removalRound 0 = .ok (.aload_n 0, 1) := by decide +kernel
theorem dX7_removalRound_1 : decode cX7_removalRound 1 = .ok (.iload_n 1, 1) := by decide +kernel
theorem dX7_removalRound_2 : decode cX7_removalRound 2 = .ok (.invokevirtual 128, 3) := by decide +kernel
theorem dX7_removalRound_5 : decode cX7_removalRound 5 = .ok (.ifCond .ne 5, 3) := by decide +kernel
theorem dX7_removalRound_8 : decode cX7_removalRound 8 = .ok (.iconst (-1), 1) := by decide +kernel
theorem dX7_removalRound_9 : decode cX7_removalRound 9 = .ok (.ireturn, 1) := by decide +kernel
theorem dX7_removalRound_10 : decode cX7_removalRound 10 = .ok (.aload_n 0, 1) := by decide +kernel
theorem dX7_removalRound_11 : decode cX7_removalRound 11 = .ok (.aload_n 0, 1) := by decide +kernel
theorem dX7_removalRound_12 : decode cX7_removalRound 12 = .ok (.getfield 13, 3) := by decide +kernel
theorem dX7_removalRound_15 : decode cX7_removalRound 15 = .ok (.iload_n 1, 1) := by decide +kernel
theorem dX7_removalRound_16 : decode cX7_removalRound 16 = .ok (.invokevirtual 185, 3) := by decide +kernel
theorem dX7_removalRound_19 : decode cX7_removalRound 19 = .ok (.aload_n 0, 1) := by decide +kernel
theorem dX7_removalRound_20 : decode cX7_removalRound 20 = .ok (.getfield 53, 3) := by decide +kernel
theorem dX7_removalRound_23 : decode cX7_removalRound 23 = .ok (.iload_n 1, 1) := by decide +kernel
theorem dX7_removalRound_24 : decode cX7_removalRound 24 = .ok (.iaload, 1) := by decide +kernel
theorem dX7_removalRound_25 : decode cX7_removalRound 25 = .ok (.ireturn, 1) := by decide +kernel
theorem dX7_survivor_0 : decode cX7_survivor 0 = .ok (.aload_n 0, 1) := by decide +kernel
theorem dX7_survivor_1 : decode cX7_survivor 1 = .ok (.iload_n 1, 1) := by decide +kernel
theorem dX7_survivor_2 : decode cX7_survivor 2 = .ok (.invokevirtual 128, 3) := by decide +kernel
theorem dX7_survivor_5 : decode cX7_survivor 5 = .ok (.ifCond .ne 5, 3) := by decide +kernel
theorem dX7_survivor_8 : decode cX7_survivor 8 = .ok (.iconst (-1), 1) := by decide +kernel
theorem dX7_survivor_9 : decode cX7_survivor 9 = .ok (.ireturn, 1) := by decide +kernel
theorem dX7_survivor_10 : decode cX7_survivor 10 = .ok (.aload_n 0, 1) := by decide +kernel
theorem dX7_survivor_11 : decode cX7_survivor 11 = .ok (.aload_n 0, 1) := by decide +kernel
theorem dX7_survivor_12 : decode cX7_survivor 12 = .ok (.getfield 13, 3) := by decide +kernel
theorem dX7_survivor_15 : decode cX7_survivor 15 = .ok (.iload_n 1, 1) := by decide +kernel
theorem dX7_survivor_16 : decode cX7_survivor 16 = .ok (.invokevirtual 185, 3) := by decide +kernel
theorem dX7_survivor_19 : decode cX7_survivor 19 = .ok (.aload_n 0, 1) := by decide +kernel
theorem dX7_survivor_20 : decode cX7_survivor 20 = .ok (.getfield 182, 3) := by decide +kernel
theorem dX7_survivor_23 : decode cX7_survivor 23 = .ok (.ireturn, 1) := by decide +kernel
theorem dX7_weightWith_0 : decode cX7_weightWith 0 = .ok (.aload_n 0, 1) := by decide +kernel
theorem dX7_weightWith_1 : decode cX7_weightWith 1 = .ok (.aload_n 1, 1) := by decide +kernel
theorem dX7_weightWith_2 : decode cX7_weightWith 2 = .ok (.iload_n 2, 1) := by decide +kernel
theorem dX7_weightWith_3 : decode cX7_weightWith 3 = .ok (.invokevirtual 68, 3) := by decide +kernel
theorem dX7_weightWith_6 : decode cX7_weightWith 6 = .ok (.iconst 0, 1) := by decide +kernel
theorem dX7_weightWith_7 : decode cX7_weightWith 7 = .ok (.istore_n 3, 1) := by decide +kernel
theorem dX7_weightWith_8 : decode cX7_weightWith 8 = .ok (.iconst 0, 1) := by decide +kernel
theorem dX7_weightWith_9 : decode cX7_weightWith 9 = .ok (.istore 4, 2) := by decide +kernel
theorem dX7_weightWith_11 : decode cX7_weightWith 11 = .ok (.iload 4, 2) := by decide +kernel
theorem dX7_weightWith_13 : decode cX7_weightWith 13 = .ok (.aload_n 0, 1) := by decide +kernel
theorem dX7_weightWith_14 : decode cX7_weightWith 14 = .ok (.getfield 56, 3) := by decide +kernel
theorem dX7_weightWith_17 : decode cX7_weightWith 17 = .ok (.if_icmp .ge 32, 3) := by decide +kernel
theorem dX7_weightWith_20 : decode cX7_weightWith 20 = .ok (.iload_n 3, 1) := by decide +kernel
theorem dX7_weightWith_21 : decode cX7_weightWith 21 = .ok (.aload_n 0, 1) := by decide +kernel
theorem dX7_weightWith_22 : decode cX7_weightWith 22 = .ok (.getfield 35, 3) := by decide +kernel
theorem dX7_weightWith_25 : decode cX7_weightWith 25 = .ok (.iload 4, 2) := by decide +kernel
theorem dX7_weightWith_27 : decode cX7_weightWith 27 = .ok (.iaload, 1) := by decide +kernel
theorem dX7_weightWith_28 : decode cX7_weightWith 28 = .ok (.bipush (-9), 2) := by decide +kernel
theorem dX7_weightWith_30 : decode cX7_weightWith 30 = .ok (.if_icmp .ne 7, 3) := by decide +kernel
theorem dX7_weightWith_33 : decode cX7_weightWith 33 = .ok (.iconst 0, 1) := by decide +kernel
theorem dX7_weightWith_34 : decode cX7_weightWith 34 = .ok (.goto 7, 3) := by decide +kernel
theorem dX7_weightWith_37 : decode cX7_weightWith 37 = .ok (.aload_n 1, 1) := by decide +kernel
theorem dX7_weightWith_38 : decode cX7_weightWith 38 = .ok (.iload 4, 2) := by decide +kernel
theorem dX7_weightWith_40 : decode cX7_weightWith 40 = .ok (.iaload, 1) := by decide +kernel
theorem dX7_weightWith_41 : decode cX7_weightWith 41 = .ok (.iadd, 1) := by decide +kernel
theorem dX7_weightWith_42 : decode cX7_weightWith 42 = .ok (.istore_n 3, 1) := by decide +kernel
theorem dX7_weightWith_43 : decode cX7_weightWith 43 = .ok (.iinc 4 1, 3) := by decide +kernel
theorem dX7_weightWith_46 : decode cX7_weightWith 46 = .ok (.goto (-35), 3) := by decide +kernel
theorem dX7_weightWith_49 : decode cX7_weightWith 49 = .ok (.iload_n 3, 1) := by decide +kernel
theorem dX7_weightWith_50 : decode cX7_weightWith 50 = .ok (.ireturn, 1) := by decide +kernel
theorem dX7_balancedCut_0 : decode cX7_balancedCut 0 = .ok (.aload_n 0, 1) := by decide +kernel
theorem dX7_balancedCut_1 : decode cX7_balancedCut 1 = .ok (.iload_n 1, 1) := by decide +kernel
theorem dX7_balancedCut_2 : decode cX7_balancedCut 2 = .ok (.invokevirtual 128, 3) := by decide +kernel
theorem dX7_balancedCut_5 : decode cX7_balancedCut 5 = .ok (.ifCond .ne 5, 3) := by decide +kernel
theorem dX7_balancedCut_8 : decode cX7_balancedCut 8 = .ok (.iconst (-1), 1) := by decide +kernel
theorem dX7_balancedCut_9 : decode cX7_balancedCut 9 = .ok (.ireturn, 1) := by decide +kernel
theorem dX7_balancedCut_10 : decode cX7_balancedCut 10 = .ok (.bipush (-9), 2) := by decide +kernel
theorem dX7_balancedCut_12 : decode cX7_balancedCut 12 = .ok (.istore_n 2, 1) := by decide +kernel
theorem dX7_balancedCut_13 : decode cX7_balancedCut 13 = .ok (.iconst 0, 1) := by decide +kernel
theorem dX7_balancedCut_14 : decode cX7_balancedCut 14 = .ok (.istore_n 3, 1) := by decide +kernel
theorem dX7_balancedCut_15 : decode cX7_balancedCut 15 = .ok (.iconst 0, 1) := by decide +kernel
theorem dX7_balancedCut_16 : decode cX7_balancedCut 16 = .ok (.istore 4, 2) := by decide +kernel
theorem dX7_balancedCut_18 : decode cX7_balancedCut 18 = .ok (.iload 4, 2) := by decide +kernel
theorem dX7_balancedCut_20 : decode cX7_balancedCut 20 = .ok (.aload_n 0, 1) := by decide +kernel
theorem dX7_balancedCut_21 : decode cX7_balancedCut 21 = .ok (.getfield 56, 3) := by decide +kernel
theorem dX7_balancedCut_24 : decode cX7_balancedCut 24 = .ok (.if_icmp .ge 166, 3) := by decide +kernel
theorem dX7_balancedCut_27 : decode cX7_balancedCut 27 = .ok (.iload 4, 2) := by decide +kernel
theorem dX7_balancedCut_29 : decode cX7_balancedCut 29 = .ok (.iconst 1, 1) := by decide +kernel
theorem dX7_balancedCut_30 : decode cX7_balancedCut 30 = .ok (.iadd, 1) := by decide +kernel
theorem dX7_balancedCut_31 : decode cX7_balancedCut 31 = .ok (.istore 5, 2) := by decide +kernel
theorem dX7_balancedCut_33 : decode cX7_balancedCut 33 = .ok (.iload 5, 2) := by decide +kernel
theorem dX7_balancedCut_35 : decode cX7_balancedCut 35 = .ok (.aload_n 0, 1) := by decide +kernel
theorem dX7_balancedCut_36 : decode cX7_balancedCut 36 = .ok (.getfield 56, 3) := by decide +kernel
theorem dX7_balancedCut_39 : decode cX7_balancedCut 39 = .ok (.if_icmp .ge 145, 3) := by decide +kernel
theorem dX7_balancedCut_42 : decode cX7_balancedCut 42 = .ok (.aload_n 0, 1) := by decide +kernel
theorem dX7_balancedCut_43 : decode cX7_balancedCut 43 = .ok (.getfield 13, 3) := by decide +kernel
theorem dX7_balancedCut_46 : decode cX7_balancedCut 46 = .ok (.iload 4, 2) := by decide +kernel
theorem dX7_balancedCut_48 : decode cX7_balancedCut 48 = .ok (.iload 5, 2) := by decide +kernel
theorem dX7_balancedCut_50 : decode cX7_balancedCut 50 = .ok (.invokestatic 64, 3) := by decide +kernel
theorem dX7_balancedCut_53 : decode cX7_balancedCut 53 = .ok (.iaload, 1) := by decide +kernel
theorem dX7_balancedCut_54 : decode cX7_balancedCut 54 = .ok (.ifCond .le 124, 3) := by decide +kernel
theorem dX7_balancedCut_57 : decode cX7_balancedCut 57 = .ok (.aload_n 0, 1) := by decide +kernel
theorem dX7_balancedCut_58 : decode cX7_balancedCut 58 = .ok (.aload_n 0, 1) := by decide +kernel
theorem dX7_balancedCut_59 : decode cX7_balancedCut 59 = .ok (.getfield 13, 3) := by decide +kernel
theorem dX7_balancedCut_62 : decode cX7_balancedCut 62 = .ok (.iload_n 1, 1) := by decide +kernel
theorem dX7_balancedCut_63 : decode cX7_balancedCut 63 = .ok (.iload 4, 2) := by decide +kernel
theorem dX7_balancedCut_65 : decode cX7_balancedCut 65 = .ok (.invokevirtual 98, 3) := by decide +kernel
theorem dX7_balancedCut_68 : decode cX7_balancedCut 68 = .ok (.ifCond .eq 110, 3) := by decide +kernel
theorem dX7_balancedCut_71 : decode cX7_balancedCut 71 = .ok (.aload_n 0, 1) := by decide +kernel
theorem dX7_balancedCut_72 : decode cX7_balancedCut 72 = .ok (.getfield 13, 3) := by decide +kernel
theorem dX7_balancedCut_75 : decode cX7_balancedCut 75 = .ok (.aload_n 0, 1) := by decide +kernel
theorem dX7_balancedCut_76 : decode cX7_balancedCut 76 = .ok (.getfield 16, 3) := by decide +kernel
theorem dX7_balancedCut_79 : decode cX7_balancedCut 79 = .ok (.invokestatic 117, 3) := by decide +kernel
theorem dX7_balancedCut_82 : decode cX7_balancedCut 82 = .ok (.aload_n 0, 1) := by decide +kernel
theorem dX7_balancedCut_83 : decode cX7_balancedCut 83 = .ok (.getfield 16, 3) := by decide +kernel
theorem dX7_balancedCut_86 : decode cX7_balancedCut 86 = .ok (.iload 4, 2) := by decide +kernel
theorem dX7_balancedCut_88 : decode cX7_balancedCut 88 = .ok (.iload 5, 2) := by decide +kernel
theorem dX7_balancedCut_90 : decode cX7_balancedCut 90 = .ok (.iconst 0, 1) := by decide +kernel
theorem dX7_balancedCut_91 : decode cX7_balancedCut 91 = .ok (.invokestatic 105, 3) := by decide +kernel
theorem dX7_balancedCut_94 : decode cX7_balancedCut 94 = .ok (.aload_n 0, 1) := by decide +kernel
theorem dX7_balancedCut_95 : decode cX7_balancedCut 95 = .ok (.aload_n 0, 1) := by decide +kernel
theorem dX7_balancedCut_96 : decode cX7_balancedCut 96 = .ok (.getfield 16, 3) := by decide +kernel
theorem dX7_balancedCut_99 : decode cX7_balancedCut 99 = .ok (.iload 4, 2) := by decide +kernel
theorem dX7_balancedCut_101 : decode cX7_balancedCut 101 = .ok (.invokevirtual 188, 3) := by decide +kernel
theorem dX7_balancedCut_104 : decode cX7_balancedCut 104 = .ok (.istore 6, 2) := by decide +kernel
theorem dX7_balancedCut_106 : decode cX7_balancedCut 106 = .ok (.aload_n 0, 1) := by decide +kernel
theorem dX7_balancedCut_107 : decode cX7_balancedCut 107 = .ok (.aload_n 0, 1) := by decide +kernel
theorem dX7_balancedCut_108 : decode cX7_balancedCut 108 = .ok (.getfield 16, 3) := by decide +kernel
theorem dX7_balancedCut_111 : decode cX7_balancedCut 111 = .ok (.iload 5, 2) := by decide +kernel
theorem dX7_balancedCut_113 : decode cX7_balancedCut 113 = .ok (.invokevirtual 188, 3) := by decide +kernel
theorem dX7_balancedCut_116 : decode cX7_balancedCut 116 = .ok (.istore 7, 2) := by decide +kernel
theorem dX7_balancedCut_118 : decode cX7_balancedCut 118 = .ok (.iload 6, 2) := by decide +kernel
theorem dX7_balancedCut_120 : decode cX7_balancedCut 120 = .ok (.iload 7, 2) := by decide +kernel
theorem dX7_balancedCut_122 : decode cX7_balancedCut 122 = .ok (.if_icmp .le 8, 3) := by decide +kernel
theorem dX7_balancedCut_125 : decode cX7_balancedCut 125 = .ok (.iload 6, 2) := by decide +kernel
theorem dX7_balancedCut_127 : decode cX7_balancedCut 127 = .ok (.goto 5, 3) := by decide +kernel
theorem dX7_balancedCut_130 : decode cX7_balancedCut 130 = .ok (.iload 7, 2) := by decide +kernel
theorem dX7_balancedCut_132 : decode cX7_balancedCut 132 = .ok (.istore 8, 2) := by decide +kernel
theorem dX7_balancedCut_134 : decode cX7_balancedCut 134 = .ok (.iload_n 2, 1) := by decide +kernel
theorem dX7_balancedCut_135 : decode cX7_balancedCut 135 = .ok (.bipush (-9), 2) := by decide +kernel
theorem dX7_balancedCut_137 : decode cX7_balancedCut 137 = .ok (.if_icmp .eq 9, 3) := by decide +kernel
theorem dX7_balancedCut_140 : decode cX7_balancedCut 140 = .ok (.iload 8, 2) := by decide +kernel
theorem dX7_balancedCut_142 : decode cX7_balancedCut 142 = .ok (.iload_n 3, 1) := by decide +kernel
theorem dX7_balancedCut_143 : decode cX7_balancedCut 143 = .ok (.if_icmp .ge 14, 3) := by decide +kernel
theorem dX7_balancedCut_146 : decode cX7_balancedCut 146 = .ok (.bipush 100, 2) := by decide +kernel
theorem dX7_balancedCut_148 : decode cX7_balancedCut 148 = .ok (.iload 4, 2) := by decide +kernel
theorem dX7_balancedCut_150 : decode cX7_balancedCut 150 = .ok (.imul, 1) := by decide +kernel
theorem dX7_balancedCut_151 : decode cX7_balancedCut 151 = .ok (.iload 5, 2) := by decide +kernel
theorem dX7_balancedCut_153 : decode cX7_balancedCut 153 = .ok (.iadd, 1) := by decide +kernel
theorem dX7_balancedCut_154 : decode cX7_balancedCut 154 = .ok (.goto 4, 3) := by decide +kernel
theorem dX7_balancedCut_157 : decode cX7_balancedCut 157 = .ok (.iload_n 2, 1) := by decide +kernel
theorem dX7_balancedCut_158 : decode cX7_balancedCut 158 = .ok (.istore_n 2, 1) := by decide +kernel
theorem dX7_balancedCut_159 : decode cX7_balancedCut 159 = .ok (.iload_n 2, 1) := by decide +kernel
theorem dX7_balancedCut_160 : decode cX7_balancedCut 160 = .ok (.bipush 100, 2) := by decide +kernel
theorem dX7_balancedCut_162 : decode cX7_balancedCut 162 = .ok (.iload 4, 2) := by decide +kernel
theorem dX7_balancedCut_164 : decode cX7_balancedCut 164 = .ok (.imul, 1) := by decide +kernel
theorem dX7_balancedCut_165 : decode cX7_balancedCut 165 = .ok (.iload 5, 2) := by decide +kernel
theorem dX7_balancedCut_167 : decode cX7_balancedCut 167 = .ok (.iadd, 1) := by decide +kernel
theorem dX7_balancedCut_168 : decode cX7_balancedCut 168 = .ok (.if_icmp .ne 8, 3) := by decide +kernel
theorem dX7_balancedCut_171 : decode cX7_balancedCut 171 = .ok (.iload 8, 2) := by decide +kernel
theorem dX7_balancedCut_173 : decode cX7_balancedCut 173 = .ok (.goto 4, 3) := by decide +kernel
theorem dX7_balancedCut_176 : decode cX7_balancedCut 176 = .ok (.iload_n 3, 1) := by decide +kernel
theorem dX7_balancedCut_177 : decode cX7_balancedCut 177 = .ok (.istore_n 3, 1) := by decide +kernel
theorem dX7_balancedCut_178 : decode cX7_balancedCut 178 = .ok (.iinc 5 1, 3) := by decide +kernel
theorem dX7_balancedCut_181 : decode cX7_balancedCut 181 = .ok (.goto (-148), 3) := by decide +kernel
theorem dX7_balancedCut_184 : decode cX7_balancedCut 184 = .ok (.iinc 4 1, 3) := by decide +kernel
theorem dX7_balancedCut_187 : decode cX7_balancedCut 187 = .ok (.goto (-169), 3) := by decide +kernel
theorem dX7_balancedCut_190 : decode cX7_balancedCut 190 = .ok (.iload_n 2, 1) := by decide +kernel
theorem dX7_balancedCut_191 : decode cX7_balancedCut 191 = .ok (.ireturn, 1) := by decide +kernel
theorem dX7_expectedReach_0 : decode cX7_expectedReach 0 = .ok (.aload_n 0, 1) := by decide +kernel
theorem dX7_expectedReach_1 : decode cX7_expectedReach 1 = .ok (.iload_n 1, 1) := by decide +kernel
theorem dX7_expectedReach_2 : decode cX7_expectedReach 2 = .ok (.invokevirtual 128, 3) := by decide +kernel
theorem dX7_expectedReach_5 : decode cX7_expectedReach 5 = .ok (.ifCond .ne 7, 3) := by decide +kernel
theorem dX7_expectedReach_8 : decode cX7_expectedReach 8 = .ok (.ldc2_w 191, 3) := by decide +kernel
theorem dX7_expectedReach_11 : decode cX7_expectedReach 11 = .ok (.lreturn, 1) := by decide +kernel
theorem dX7_expectedReach_12 : decode cX7_expectedReach 12 = .ok (.iload_n 2, 1) := by decide +kernel
theorem dX7_expectedReach_13 : decode cX7_expectedReach 13 = .ok (.i2l, 1) := by decide +kernel
theorem dX7_expectedReach_14 : decode cX7_expectedReach 14 = .ok (.lconst 0, 1) := by decide +kernel
theorem dX7_expectedReach_15 : decode cX7_expectedReach 15 = .ok (.ldc2_w 193, 3) := by decide +kernel
theorem dX7_expectedReach_18 : decode cX7_expectedReach 18 = .ok (.invokestatic 60, 3) := by decide +kernel
theorem dX7_expectedReach_21 : decode cX7_expectedReach 21 = .ok (.ifCond .ne 7, 3) := by decide +kernel
theorem dX7_expectedReach_24 : decode cX7_expectedReach 24 = .ok (.ldc2_w 195, 3) := by decide +kernel
theorem dX7_expectedReach_27 : decode cX7_expectedReach 27 = .ok (.lreturn, 1) := by decide +kernel
theorem dX7_expectedReach_28 : decode cX7_expectedReach 28 = .ok (.aload_n 0, 1) := by decide +kernel
theorem dX7_expectedReach_29 : decode cX7_expectedReach 29 = .ok (.aload_n 0, 1) := by decide +kernel
theorem dX7_expectedReach_30 : decode cX7_expectedReach 30 = .ok (.getfield 13, 3) := by decide +kernel
theorem dX7_expectedReach_33 : decode cX7_expectedReach 33 = .ok (.iload_n 1, 1) := by decide +kernel
theorem dX7_expectedReach_34 : decode cX7_expectedReach 34 = .ok (.invokevirtual 68, 3) := by decide +kernel
theorem dX7_expectedReach_37 : decode cX7_expectedReach 37 = .ok (.lconst 0, 1) := by decide +kernel
theorem dX7_expectedReach_38 : decode cX7_expectedReach 38 = .ok (.lstore_n 3, 1) := by decide +kernel
theorem dX7_expectedReach_39 : decode cX7_expectedReach 39 = .ok (.iconst 0, 1) := by decide +kernel
theorem dX7_expectedReach_40 : decode cX7_expectedReach 40 = .ok (.istore 5, 2) := by decide +kernel
theorem dX7_expectedReach_42 : decode cX7_expectedReach 42 = .ok (.iload 5, 2) := by decide +kernel
theorem dX7_expectedReach_44 : decode cX7_expectedReach 44 = .ok (.aload_n 0, 1) := by decide +kernel
theorem dX7_expectedReach_45 : decode cX7_expectedReach 45 = .ok (.getfield 56, 3) := by decide +kernel
theorem dX7_expectedReach_48 : decode cX7_expectedReach 48 = .ok (.if_icmp .ge 84, 3) := by decide +kernel
theorem dX7_expectedReach_51 : decode cX7_expectedReach 51 = .ok (.aload_n 0, 1) := by decide +kernel
theorem dX7_expectedReach_52 : decode cX7_expectedReach 52 = .ok (.getfield 35, 3) := by decide +kernel
theorem dX7_expectedReach_55 : decode cX7_expectedReach 55 = .ok (.iload 5, 2) := by decide +kernel
theorem dX7_expectedReach_57 : decode cX7_expectedReach 57 = .ok (.iaload, 1) := by decide +kernel
theorem dX7_expectedReach_58 : decode cX7_expectedReach 58 = .ok (.bipush (-9), 2) := by decide +kernel
theorem dX7_expectedReach_60 : decode cX7_expectedReach 60 = .ok (.if_icmp .ne 7, 3) := by decide +kernel
theorem dX7_expectedReach_63 : decode cX7_expectedReach 63 = .ok (.lconst 0, 1) := by decide +kernel
theorem dX7_expectedReach_64 : decode cX7_expectedReach 64 = .ok (.goto 11, 3) := by decide +kernel
theorem dX7_expectedReach_67 : decode cX7_expectedReach 67 = .ok (.aload_n 0, 1) := by decide +kernel
theorem dX7_expectedReach_68 : decode cX7_expectedReach 68 = .ok (.getfield 13, 3) := by decide +kernel
theorem dX7_expectedReach_71 : decode cX7_expectedReach 71 = .ok (.iload 5, 2) := by decide +kernel
theorem dX7_expectedReach_73 : decode cX7_expectedReach 73 = .ok (.iaload, 1) := by decide +kernel
theorem dX7_expectedReach_74 : decode cX7_expectedReach 74 = .ok (.i2l, 1) := by decide +kernel
theorem dX7_expectedReach_75 : decode cX7_expectedReach 75 = .ok (.lstore 6, 2) := by decide +kernel
theorem dX7_expectedReach_77 : decode cX7_expectedReach 77 = .ok (.iconst 0, 1) := by decide +kernel
theorem dX7_expectedReach_78 : decode cX7_expectedReach 78 = .ok (.istore 8, 2) := by decide +kernel
theorem dX7_expectedReach_80 : decode cX7_expectedReach 80 = .ok (.iload 8, 2) := by decide +kernel
theorem dX7_expectedReach_82 : decode cX7_expectedReach 82 = .ok (.bipush 11, 2) := by decide +kernel
theorem dX7_expectedReach_84 : decode cX7_expectedReach 84 = .ok (.if_icmp .ge 37, 3) := by decide +kernel
theorem dX7_expectedReach_87 : decode cX7_expectedReach 87 = .ok (.lload 6, 2) := by decide +kernel
theorem dX7_expectedReach_89 : decode cX7_expectedReach 89 = .ok (.iload 8, 2) := by decide +kernel
theorem dX7_expectedReach_91 : decode cX7_expectedReach 91 = .ok (.aload_n 0, 1) := by decide +kernel
theorem dX7_expectedReach_92 : decode cX7_expectedReach 92 = .ok (.getfield 38, 3) := by decide +kernel
theorem dX7_expectedReach_95 : decode cX7_expectedReach 95 = .ok (.iload 5, 2) := by decide +kernel
theorem dX7_expectedReach_97 : decode cX7_expectedReach 97 = .ok (.iaload, 1) := by decide +kernel
theorem dX7_expectedReach_98 : decode cX7_expectedReach 98 = .ok (.if_icmp .ge 11, 3) := by decide +kernel
theorem dX7_expectedReach_101 : decode cX7_expectedReach 101 = .ok (.bipush 10, 2) := by decide +kernel
theorem dX7_expectedReach_103 : decode cX7_expectedReach 103 = .ok (.iload_n 2, 1) := by decide +kernel
theorem dX7_expectedReach_104 : decode cX7_expectedReach 104 = .ok (.isub, 1) := by decide +kernel
theorem dX7_expectedReach_105 : decode cX7_expectedReach 105 = .ok (.i2l, 1) := by decide +kernel
theorem dX7_expectedReach_106 : decode cX7_expectedReach 106 = .ok (.goto 6, 3) := by decide +kernel
theorem dX7_expectedReach_109 : decode cX7_expectedReach 109 = .ok (.ldc2_w 193, 3) := by decide +kernel
theorem dX7_expectedReach_112 : decode cX7_expectedReach 112 = .ok (.lmul, 1) := by decide +kernel
theorem dX7_expectedReach_113 : decode cX7_expectedReach 113 = .ok (.lstore 6, 2) := by decide +kernel
theorem dX7_expectedReach_115 : decode cX7_expectedReach 115 = .ok (.iinc 8 1, 3) := by decide +kernel
theorem dX7_expectedReach_118 : decode cX7_expectedReach 118 = .ok (.goto (-38), 3) := by decide +kernel
theorem dX7_expectedReach_121 : decode cX7_expectedReach 121 = .ok (.lload_n 3, 1) := by decide +kernel
theorem dX7_expectedReach_122 : decode cX7_expectedReach 122 = .ok (.lload 6, 2) := by decide +kernel
theorem dX7_expectedReach_124 : decode cX7_expectedReach 124 = .ok (.ladd, 1) := by decide +kernel
theorem dX7_expectedReach_125 : decode cX7_expectedReach 125 = .ok (.lstore_n 3, 1) := by decide +kernel
theorem dX7_expectedReach_126 : decode cX7_expectedReach 126 = .ok (.iinc 5 1, 3) := by decide +kernel
theorem dX7_expectedReach_129 : decode cX7_expectedReach 129 = .ok (.goto (-87), 3) := by decide +kernel
theorem dX7_expectedReach_132 : decode cX7_expectedReach 132 = .ok (.lload_n 3, 1) := by decide +kernel
theorem dX7_expectedReach_133 : decode cX7_expectedReach 133 = .ok (.lreturn, 1) := by decide +kernel
theorem dX7_observe_0 : decode cX7_observe 0 = .ok (.iload_n 1, 1) := by decide +kernel
theorem dX7_observe_1 : decode cX7_observe 1 = .ok (.i2l, 1) := by decide +kernel
theorem dX7_observe_2 : decode cX7_observe 2 = .ok (.lconst 0, 1) := by decide +kernel
theorem dX7_observe_3 : decode cX7_observe 3 = .ok (.ldc2_w 197, 3) := by decide +kernel
theorem dX7_observe_6 : decode cX7_observe 6 = .ok (.invokestatic 60, 3) := by decide +kernel
theorem dX7_observe_9 : decode cX7_observe 9 = .ok (.ifCond .eq 27, 3) := by decide +kernel
theorem dX7_observe_12 : decode cX7_observe 12 = .ok (.iload_n 2, 1) := by decide +kernel
theorem dX7_observe_13 : decode cX7_observe 13 = .ok (.i2l, 1) := by decide +kernel
theorem dX7_observe_14 : decode cX7_observe 14 = .ok (.lconst 0, 1) := by decide +kernel
theorem dX7_observe_15 : decode cX7_observe 15 = .ok (.ldc2_w 197, 3) := by decide +kernel
theorem dX7_observe_18 : decode cX7_observe 18 = .ok (.invokestatic 60, 3) := by decide +kernel
theorem dX7_observe_21 : decode cX7_observe 21 = .ok (.ifCond .eq 15, 3) := by decide +kernel
theorem dX7_observe_24 : decode cX7_observe 24 = .ok (.iload_n 3, 1) := by decide +kernel
theorem dX7_observe_25 : decode cX7_observe 25 = .ok (.i2l, 1) := by decide +kernel
theorem dX7_observe_26 : decode cX7_observe 26 = .ok (.lconst 0, 1) := by decide +kernel
theorem dX7_observe_27 : decode cX7_observe 27 = .ok (.ldc2_w 199, 3) := by decide +kernel
theorem dX7_observe_30 : decode cX7_observe 30 = .ok (.invokestatic 60, 3) := by decide +kernel
theorem dX7_observe_33 : decode cX7_observe 33 = .ok (.ifCond .ne 6, 3) := by decide +kernel
theorem dX7_observe_36 : decode cX7_observe 36 = .ok (.bipush (-2), 2) := by decide +kernel
theorem dX7_observe_38 : decode cX7_observe 38 = .ok (.ireturn, 1) := by decide +kernel
theorem dX7_observe_39 : decode cX7_observe 39 = .ok (.aload_n 0, 1) := by decide +kernel
theorem dX7_observe_40 : decode cX7_observe 40 = .ok (.getfield 201, 3) := by decide +kernel
theorem dX7_observe_43 : decode cX7_observe 43 = .ok (.bipush 6, 2) := by decide +kernel
theorem dX7_observe_45 : decode cX7_observe 45 = .ok (.if_icmp .ne 45, 3) := by decide +kernel
theorem dX7_observe_48 : decode cX7_observe 48 = .ok (.iconst 0, 1) := by decide +kernel
theorem dX7_observe_49 : decode cX7_observe 49 = .ok (.istore 4, 2) := by decide +kernel
theorem dX7_observe_51 : decode cX7_observe 51 = .ok (.iload 4, 2) := by decide +kernel
theorem dX7_observe_53 : decode cX7_observe 53 = .ok (.bipush 15, 2) := by decide +kernel
theorem dX7_observe_55 : decode cX7_observe 55 = .ok (.if_icmp .ge 25, 3) := by decide +kernel
theorem dX7_observe_58 : decode cX7_observe 58 = .ok (.aload_n 0, 1) := by decide +kernel
theorem dX7_observe_59 : decode cX7_observe 59 = .ok (.getfield 32, 3) := by decide +kernel
theorem dX7_observe_62 : decode cX7_observe 62 = .ok (.iload 4, 2) := by decide +kernel
theorem dX7_observe_64 : decode cX7_observe 64 = .ok (.aload_n 0, 1) := by decide +kernel
theorem dX7_observe_65 : decode cX7_observe 65 = .ok (.getfield 32, 3) := by decide +kernel
theorem dX7_observe_68 : decode cX7_observe 68 = .ok (.iload 4, 2) := by decide +kernel
theorem dX7_observe_70 : decode cX7_observe 70 = .ok (.iconst 3, 1) := by decide +kernel
theorem dX7_observe_71 : decode cX7_observe 71 = .ok (.iadd, 1) := by decide +kernel
theorem dX7_observe_72 : decode cX7_observe 72 = .ok (.iaload, 1) := by decide +kernel
theorem dX7_observe_73 : decode cX7_observe 73 = .ok (.iastore, 1) := by decide +kernel
theorem dX7_observe_74 : decode cX7_observe 74 = .ok (.iinc 4 1, 3) := by decide +kernel
theorem dX7_observe_77 : decode cX7_observe 77 = .ok (.goto (-26), 3) := by decide +kernel
theorem dX7_observe_80 : decode cX7_observe 80 = .ok (.aload_n 0, 1) := by decide +kernel
theorem dX7_observe_81 : decode cX7_observe 81 = .ok (.dup, 1) := by decide +kernel
theorem dX7_observe_82 : decode cX7_observe 82 = .ok (.getfield 201, 3) := by decide +kernel
theorem dX7_observe_85 : decode cX7_observe 85 = .ok (.iconst 1, 1) := by decide +kernel
theorem dX7_observe_86 : decode cX7_observe 86 = .ok (.isub, 1) := by decide +kernel
theorem dX7_observe_87 : decode cX7_observe 87 = .ok (.putfield 201, 3) := by decide +kernel
theorem dX7_observe_90 : decode cX7_observe 90 = .ok (.aload_n 0, 1) := by decide +kernel
theorem dX7_observe_91 : decode cX7_observe 91 = .ok (.getfield 32, 3) := by decide +kernel
theorem dX7_observe_94 : decode cX7_observe 94 = .ok (.iconst 3, 1) := by decide +kernel
theorem dX7_observe_95 : decode cX7_observe 95 = .ok (.aload_n 0, 1) := by decide +kernel
theorem dX7_observe_96 : decode cX7_observe 96 = .ok (.getfield 201, 3) := by decide +kernel
theorem dX7_observe_99 : decode cX7_observe 99 = .ok (.imul, 1) := by decide +kernel
theorem dX7_observe_100 : decode cX7_observe 100 = .ok (.iload_n 1, 1) := by decide +kernel
theorem dX7_observe_101 : decode cX7_observe 101 = .ok (.iastore, 1) := by decide +kernel
theorem dX7_observe_102 : decode cX7_observe 102 = .ok (.aload_n 0, 1) := by decide +kernel
theorem dX7_observe_103 : decode cX7_observe 103 = .ok (.getfield 32, 3) := by decide +kernel
theorem dX7_observe_106 : decode cX7_observe 106 = .ok (.iconst 3, 1) := by decide +kernel
theorem dX7_observe_107 : decode cX7_observe 107 = .ok (.aload_n 0, 1) := by decide +kernel
theorem dX7_observe_108 : decode cX7_observe 108 = .ok (.getfield 201, 3) := by decide +kernel
theorem dX7_observe_111 : decode cX7_observe 111 = .ok (.imul, 1) := by decide +kernel
theorem dX7_observe_112 : decode cX7_observe 112 = .ok (.iconst 1, 1) := by decide +kernel
theorem dX7_observe_113 : decode cX7_observe 113 = .ok (.iadd, 1) := by decide +kernel
theorem dX7_observe_114 : decode cX7_observe 114 = .ok (.iload_n 2, 1) := by decide +kernel
theorem dX7_observe_115 : decode cX7_observe 115 = .ok (.iastore, 1) := by decide +kernel
theorem dX7_observe_116 : decode cX7_observe 116 = .ok (.aload_n 0, 1) := by decide +kernel
theorem dX7_observe_117 : decode cX7_observe 117 = .ok (.getfield 32, 3) := by decide +kernel
theorem dX7_observe_120 : decode cX7_observe 120 = .ok (.iconst 3, 1) := by decide +kernel
theorem dX7_observe_121 : decode cX7_observe 121 = .ok (.aload_n 0, 1) := by decide +kernel
theorem dX7_observe_122 : decode cX7_observe 122 = .ok (.getfield 201, 3) := by decide +kernel
theorem dX7_observe_125 : decode cX7_observe 125 = .ok (.imul, 1) := by decide +kernel
theorem dX7_observe_126 : decode cX7_observe 126 = .ok (.iconst 2, 1) := by decide +kernel
theorem dX7_observe_127 : decode cX7_observe 127 = .ok (.iadd, 1) := by decide +kernel
theorem dX7_observe_128 : decode cX7_observe 128 = .ok (.iload_n 3, 1) := by decide +kernel
theorem dX7_observe_129 : decode cX7_observe 129 = .ok (.iastore, 1) := by decide +kernel
theorem dX7_observe_130 : decode cX7_observe 130 = .ok (.aload_n 0, 1) := by decide +kernel
theorem dX7_observe_131 : decode cX7_observe 131 = .ok (.dup, 1) := by decide +kernel
theorem dX7_observe_132 : decode cX7_observe 132 = .ok (.getfield 201, 3) := by decide +kernel
theorem dX7_observe_135 : decode cX7_observe 135 = .ok (.iconst 1, 1) := by decide +kernel
theorem dX7_observe_136 : decode cX7_observe 136 = .ok (.iadd, 1) := by decide +kernel
theorem dX7_observe_137 : decode cX7_observe 137 = .ok (.putfield 201, 3) := by decide +kernel
theorem dX7_observe_140 : decode cX7_observe 140 = .ok (.aload_n 0, 1) := by decide +kernel
theorem dX7_observe_141 : decode cX7_observe 141 = .ok (.getfield 201, 3) := by decide +kernel
theorem dX7_observe_144 : decode cX7_observe 144 = .ok (.ireturn, 1) := by decide +kernel
theorem dX7_agrees_0 : decode cX7_agrees 0 = .ok (.iconst 1, 1) := by decide +kernel
theorem dX7_agrees_1 : decode cX7_agrees 1 = .ok (.istore_n 2, 1) := by decide +kernel
theorem dX7_agrees_2 : decode cX7_agrees 2 = .ok (.iconst 0, 1) := by decide +kernel
theorem dX7_agrees_3 : decode cX7_agrees 3 = .ok (.istore_n 3, 1) := by decide +kernel
theorem dX7_agrees_4 : decode cX7_agrees 4 = .ok (.iload_n 3, 1) := by decide +kernel
theorem dX7_agrees_5 : decode cX7_agrees 5 = .ok (.aload_n 0, 1) := by decide +kernel
theorem dX7_agrees_6 : decode cX7_agrees 6 = .ok (.getfield 201, 3) := by decide +kernel
theorem dX7_agrees_9 : decode cX7_agrees 9 = .ok (.if_icmp .ge 81, 3) := by decide +kernel
theorem dX7_agrees_12 : decode cX7_agrees 12 = .ok (.aload_n 0, 1) := by decide +kernel
theorem dX7_agrees_13 : decode cX7_agrees 13 = .ok (.getfield 32, 3) := by decide +kernel
theorem dX7_agrees_16 : decode cX7_agrees 16 = .ok (.iconst 3, 1) := by decide +kernel
theorem dX7_agrees_17 : decode cX7_agrees 17 = .ok (.iload_n 3, 1) := by decide +kernel
theorem dX7_agrees_18 : decode cX7_agrees 18 = .ok (.imul, 1) := by decide +kernel
theorem dX7_agrees_19 : decode cX7_agrees 19 = .ok (.iaload, 1) := by decide +kernel
theorem dX7_agrees_20 : decode cX7_agrees 20 = .ok (.istore 4, 2) := by decide +kernel
theorem dX7_agrees_22 : decode cX7_agrees 22 = .ok (.aload_n 0, 1) := by decide +kernel
theorem dX7_agrees_23 : decode cX7_agrees 23 = .ok (.getfield 32, 3) := by decide +kernel
theorem dX7_agrees_26 : decode cX7_agrees 26 = .ok (.iconst 3, 1) := by decide +kernel
theorem dX7_agrees_27 : decode cX7_agrees 27 = .ok (.iload_n 3, 1) := by decide +kernel
theorem dX7_agrees_28 : decode cX7_agrees 28 = .ok (.imul, 1) := by decide +kernel
theorem dX7_agrees_29 : decode cX7_agrees 29 = .ok (.iconst 1, 1) := by decide +kernel
theorem dX7_agrees_30 : decode cX7_agrees 30 = .ok (.iadd, 1) := by decide +kernel
theorem dX7_agrees_31 : decode cX7_agrees 31 = .ok (.iaload, 1) := by decide +kernel
theorem dX7_agrees_32 : decode cX7_agrees 32 = .ok (.istore 5, 2) := by decide +kernel
theorem dX7_agrees_34 : decode cX7_agrees 34 = .ok (.iload_n 2, 1) := by decide +kernel
theorem dX7_agrees_35 : decode cX7_agrees 35 = .ok (.ifCond .eq 47, 3) := by decide +kernel
theorem dX7_agrees_38 : decode cX7_agrees 38 = .ok (.aload_n 0, 1) := by decide +kernel
theorem dX7_agrees_39 : decode cX7_agrees 39 = .ok (.iload 4, 2) := by decide +kernel
theorem dX7_agrees_41 : decode cX7_agrees 41 = .ok (.invokevirtual 128, 3) := by decide +kernel
theorem dX7_agrees_44 : decode cX7_agrees 44 = .ok (.ifCond .eq 38, 3) := by decide +kernel
theorem dX7_agrees_47 : decode cX7_agrees 47 = .ok (.aload_n 0, 1) := by decide +kernel
theorem dX7_agrees_48 : decode cX7_agrees 48 = .ok (.iload 5, 2) := by decide +kernel
theorem dX7_agrees_50 : decode cX7_agrees 50 = .ok (.invokevirtual 128, 3) := by decide +kernel
theorem dX7_agrees_53 : decode cX7_agrees 53 = .ok (.ifCond .eq 29, 3) := by decide +kernel
theorem dX7_agrees_56 : decode cX7_agrees 56 = .ok (.aload_n 0, 1) := by decide +kernel
theorem dX7_agrees_57 : decode cX7_agrees 57 = .ok (.aload_n 1, 1) := by decide +kernel
theorem dX7_agrees_58 : decode cX7_agrees 58 = .ok (.iload 4, 2) := by decide +kernel
theorem dX7_agrees_60 : decode cX7_agrees 60 = .ok (.iload 5, 2) := by decide +kernel
theorem dX7_agrees_62 : decode cX7_agrees 62 = .ok (.invokevirtual 72, 3) := by decide +kernel
theorem dX7_agrees_65 : decode cX7_agrees 65 = .ok (.aload_n 0, 1) := by decide +kernel
theorem dX7_agrees_66 : decode cX7_agrees 66 = .ok (.getfield 32, 3) := by decide +kernel
theorem dX7_agrees_69 : decode cX7_agrees 69 = .ok (.iconst 3, 1) := by decide +kernel
theorem dX7_agrees_70 : decode cX7_agrees 70 = .ok (.iload_n 3, 1) := by decide +kernel
theorem dX7_agrees_71 : decode cX7_agrees 71 = .ok (.imul, 1) := by decide +kernel
theorem dX7_agrees_72 : decode cX7_agrees 72 = .ok (.iconst 2, 1) := by decide +kernel
theorem dX7_agrees_73 : decode cX7_agrees 73 = .ok (.iadd, 1) := by decide +kernel
theorem dX7_agrees_74 : decode cX7_agrees 74 = .ok (.iaload, 1) := by decide +kernel
theorem dX7_agrees_75 : decode cX7_agrees 75 = .ok (.if_icmp .ne 7, 3) := by decide +kernel
theorem dX7_agrees_78 : decode cX7_agrees 78 = .ok (.iconst 1, 1) := by decide +kernel
theorem dX7_agrees_79 : decode cX7_agrees 79 = .ok (.goto 4, 3) := by decide +kernel
theorem dX7_agrees_82 : decode cX7_agrees 82 = .ok (.iconst 0, 1) := by decide +kernel
theorem dX7_agrees_83 : decode cX7_agrees 83 = .ok (.istore_n 2, 1) := by decide +kernel
theorem dX7_agrees_84 : decode cX7_agrees 84 = .ok (.iinc 3 1, 3) := by decide +kernel
theorem dX7_agrees_87 : decode cX7_agrees 87 = .ok (.goto (-83), 3) := by decide +kernel
theorem dX7_agrees_90 : decode cX7_agrees 90 = .ok (.iload_n 2, 1) := by decide +kernel
theorem dX7_agrees_91 : decode cX7_agrees 91 = .ok (.ireturn, 1) := by decide +kernel
theorem dX7_possibleWeights_0 : decode cX7_possibleWeights 0 = .ok (.aload_n 0, 1) := by decide +kernel
theorem dX7_possibleWeights_1 : decode cX7_possibleWeights 1 = .ok (.aload_n 0, 1) := by decide +kernel
theorem dX7_possibleWeights_2 : decode cX7_possibleWeights 2 = .ok (.getfield 13, 3) := by decide +kernel
theorem dX7_possibleWeights_5 : decode cX7_possibleWeights 5 = .ok (.iload_n 1, 1) := by decide +kernel
theorem dX7_possibleWeights_6 : decode cX7_possibleWeights 6 = .ok (.iload_n 2, 1) := by decide +kernel
theorem dX7_possibleWeights_7 : decode cX7_possibleWeights 7 = .ok (.iconst 1, 1) := by decide +kernel
theorem dX7_possibleWeights_8 : decode cX7_possibleWeights 8 = .ok (.invokevirtual 144, 3) := by decide +kernel
theorem dX7_possibleWeights_11 : decode cX7_possibleWeights 11 = .ok (.istore_n 3, 1) := by decide +kernel
theorem dX7_possibleWeights_12 : decode cX7_possibleWeights 12 = .ok (.iload_n 3, 1) := by decide +kernel
theorem dX7_possibleWeights_13 : decode cX7_possibleWeights 13 = .ok (.ifCond .eq 5, 3) := by decide +kernel
theorem dX7_possibleWeights_16 : decode cX7_possibleWeights 16 = .ok (.iload_n 3, 1) := by decide +kernel
theorem dX7_possibleWeights_17 : decode cX7_possibleWeights 17 = .ok (.ireturn, 1) := by decide +kernel
theorem dX7_possibleWeights_18 : decode cX7_possibleWeights 18 = .ok (.aload_n 0, 1) := by decide +kernel
theorem dX7_possibleWeights_19 : decode cX7_possibleWeights 19 = .ok (.getfield 13, 3) := by decide +kernel
theorem dX7_possibleWeights_22 : decode cX7_possibleWeights 22 = .ok (.aload_n 0, 1) := by decide +kernel
theorem dX7_possibleWeights_23 : decode cX7_possibleWeights 23 = .ok (.getfield 16, 3) := by decide +kernel
theorem dX7_possibleWeights_26 : decode cX7_possibleWeights 26 = .ok (.invokestatic 117, 3) := by decide +kernel
theorem dX7_possibleWeights_29 : decode cX7_possibleWeights 29 = .ok (.iconst 0, 1) := by decide +kernel
theorem dX7_possibleWeights_30 : decode cX7_possibleWeights 30 = .ok (.istore 4, 2) := by decide +kernel
theorem dX7_possibleWeights_32 : decode cX7_possibleWeights 32 = .ok (.iconst 1, 1) := by decide +kernel
theorem dX7_possibleWeights_33 : decode cX7_possibleWeights 33 = .ok (.istore 5, 2) := by decide +kernel
theorem dX7_possibleWeights_35 : decode cX7_possibleWeights 35 = .ok (.iload 5, 2) := by decide +kernel
theorem dX7_possibleWeights_37 : decode cX7_possibleWeights 37 = .ok (.bipush 99, 2) := by decide +kernel
theorem dX7_possibleWeights_39 : decode cX7_possibleWeights 39 = .ok (.if_icmp .gt 41, 3) := by decide +kernel
theorem dX7_possibleWeights_42 : decode cX7_possibleWeights 42 = .ok (.aload_n 0, 1) := by decide +kernel
theorem dX7_possibleWeights_43 : decode cX7_possibleWeights 43 = .ok (.getfield 16, 3) := by decide +kernel
theorem dX7_possibleWeights_46 : decode cX7_possibleWeights 46 = .ok (.iload_n 1, 1) := by decide +kernel
theorem dX7_possibleWeights_47 : decode cX7_possibleWeights 47 = .ok (.iload_n 2, 1) := by decide +kernel
theorem dX7_possibleWeights_48 : decode cX7_possibleWeights 48 = .ok (.iload 5, 2) := by decide +kernel
theorem dX7_possibleWeights_50 : decode cX7_possibleWeights 50 = .ok (.invokestatic 105, 3) := by decide +kernel
theorem dX7_possibleWeights_53 : decode cX7_possibleWeights 53 = .ok (.iload 4, 2) := by decide +kernel
theorem dX7_possibleWeights_55 : decode cX7_possibleWeights 55 = .ok (.aload_n 0, 1) := by decide +kernel
theorem dX7_possibleWeights_56 : decode cX7_possibleWeights 56 = .ok (.aload_n 0, 1) := by decide +kernel
theorem dX7_possibleWeights_57 : decode cX7_possibleWeights 57 = .ok (.getfield 16, 3) := by decide +kernel
theorem dX7_possibleWeights_60 : decode cX7_possibleWeights 60 = .ok (.invokevirtual 204, 3) := by decide +kernel
theorem dX7_possibleWeights_63 : decode cX7_possibleWeights 63 = .ok (.ifCond .eq 7, 3) := by decide +kernel
theorem dX7_possibleWeights_66 : decode cX7_possibleWeights 66 = .ok (.iconst 1, 1) := by decide +kernel
theorem dX7_possibleWeights_67 : decode cX7_possibleWeights 67 = .ok (.goto 4, 3) := by decide +kernel
theorem dX7_possibleWeights_70 : decode cX7_possibleWeights 70 = .ok (.iconst 0, 1) := by decide +kernel
theorem dX7_possibleWeights_71 : decode cX7_possibleWeights 71 = .ok (.iadd, 1) := by decide +kernel
theorem dX7_possibleWeights_72 : decode cX7_possibleWeights 72 = .ok (.istore 4, 2) := by decide +kernel
theorem dX7_possibleWeights_74 : decode cX7_possibleWeights 74 = .ok (.iinc 5 1, 3) := by decide +kernel
theorem dX7_possibleWeights_77 : decode cX7_possibleWeights 77 = .ok (.goto (-42), 3) := by decide +kernel
theorem dX7_possibleWeights_80 : decode cX7_possibleWeights 80 = .ok (.iload 4, 2) := by decide +kernel
theorem dX7_possibleWeights_82 : decode cX7_possibleWeights 82 = .ok (.ireturn, 1) := by decide +kernel
theorem dX7_command_0 : decode cX7_command 0 = .ok (.aload_n 0, 1) := by decide +kernel
theorem dX7_command_1 : decode cX7_command 1 = .ok (.iload_n 2, 1) := by decide +kernel
theorem dX7_command_2 : decode cX7_command 2 = .ok (.invokevirtual 128, 3) := by decide +kernel
theorem dX7_command_5 : decode cX7_command 5 = .ok (.ifCond .eq 28, 3) := by decide +kernel
theorem dX7_command_8 : decode cX7_command 8 = .ok (.aload_n 0, 1) := by decide +kernel
theorem dX7_command_9 : decode cX7_command 9 = .ok (.iload_n 3, 1) := by decide +kernel
theorem dX7_command_10 : decode cX7_command 10 = .ok (.invokevirtual 128, 3) := by decide +kernel
theorem dX7_command_13 : decode cX7_command 13 = .ok (.ifCond .eq 20, 3) := by decide +kernel
theorem dX7_command_16 : decode cX7_command 16 = .ok (.aload_n 0, 1) := by decide +kernel
theorem dX7_command_17 : decode cX7_command 17 = .ok (.aload_n 0, 1) := by decide +kernel
theorem dX7_command_18 : decode cX7_command 18 = .ok (.getfield 16, 3) := by decide +kernel
theorem dX7_command_21 : decode cX7_command 21 = .ok (.iload_n 2, 1) := by decide +kernel
theorem dX7_command_22 : decode cX7_command 22 = .ok (.iload_n 3, 1) := by decide +kernel
theorem dX7_command_23 : decode cX7_command 23 = .ok (.invokevirtual 98, 3) := by decide +kernel
theorem dX7_command_26 : decode cX7_command 26 = .ok (.ifCond .eq 7, 3) := by decide +kernel
theorem dX7_command_29 : decode cX7_command 29 = .ok (.iconst 1, 1) := by decide +kernel
theorem dX7_command_30 : decode cX7_command 30 = .ok (.goto 4, 3) := by decide +kernel
theorem dX7_command_33 : decode cX7_command 33 = .ok (.iconst 0, 1) := by decide +kernel
theorem dX7_command_34 : decode cX7_command 34 = .ok (.istore 4, 2) := by decide +kernel
theorem dX7_command_36 : decode cX7_command 36 = .ok (.iload_n 1, 1) := by decide +kernel
theorem dX7_command_37 : decode cX7_command 37 = .ok (.tableswitch 183 1 5 #[35, 63, 91, 94, 119], 35) := by decide +kernel
theorem dX7_command_72 : decode cX7_command 72 = .ok (.aload_n 0, 1) := by decide +kernel
theorem dX7_command_73 : decode cX7_command 73 = .ok (.aload_n 0, 1) := by decide +kernel
theorem dX7_command_74 : decode cX7_command 74 = .ok (.getfield 16, 3) := by decide +kernel
theorem dX7_command_77 : decode cX7_command 77 = .ok (.iload_n 2, 1) := by decide +kernel
theorem dX7_command_78 : decode cX7_command 78 = .ok (.iload_n 3, 1) := by decide +kernel
theorem dX7_command_79 : decode cX7_command 79 = .ok (.iconst 1, 1) := by decide +kernel
theorem dX7_command_80 : decode cX7_command 80 = .ok (.invokevirtual 137, 3) := by decide +kernel
theorem dX7_command_83 : decode cX7_command 83 = .ok (.ifCond .eq 5, 3) := by decide +kernel
theorem dX7_command_86 : decode cX7_command 86 = .ok (.iconst 0, 1) := by decide +kernel
theorem dX7_command_87 : decode cX7_command 87 = .ok (.ireturn, 1) := by decide +kernel
theorem dX7_command_88 : decode cX7_command 88 = .ok (.aload_n 0, 1) := by decide +kernel
theorem dX7_command_89 : decode cX7_command 89 = .ok (.getfield 16, 3) := by decide +kernel
theorem dX7_command_92 : decode cX7_command 92 = .ok (.iload_n 2, 1) := by decide +kernel
theorem dX7_command_93 : decode cX7_command 93 = .ok (.iload_n 3, 1) := by decide +kernel
theorem dX7_command_94 : decode cX7_command 94 = .ok (.iconst 1, 1) := by decide +kernel
theorem dX7_command_95 : decode cX7_command 95 = .ok (.invokestatic 105, 3) := by decide +kernel
theorem dX7_command_98 : decode cX7_command 98 = .ok (.iconst 1, 1) := by decide +kernel
theorem dX7_command_99 : decode cX7_command 99 = .ok (.ireturn, 1) := by decide +kernel
theorem dX7_command_100 : decode cX7_command 100 = .ok (.aload_n 0, 1) := by decide +kernel
theorem dX7_command_101 : decode cX7_command 101 = .ok (.aload_n 0, 1) := by decide +kernel
theorem dX7_command_102 : decode cX7_command 102 = .ok (.getfield 16, 3) := by decide +kernel
theorem dX7_command_105 : decode cX7_command 105 = .ok (.iload_n 2, 1) := by decide +kernel
theorem dX7_command_106 : decode cX7_command 106 = .ok (.iload_n 3, 1) := by decide +kernel
theorem dX7_command_107 : decode cX7_command 107 = .ok (.iconst 1, 1) := by decide +kernel
theorem dX7_command_108 : decode cX7_command 108 = .ok (.invokevirtual 144, 3) := by decide +kernel
theorem dX7_command_111 : decode cX7_command 111 = .ok (.ifCond .eq 5, 3) := by decide +kernel
theorem dX7_command_114 : decode cX7_command 114 = .ok (.iconst 0, 1) := by decide +kernel
theorem dX7_command_115 : decode cX7_command 115 = .ok (.ireturn, 1) := by decide +kernel
theorem dX7_command_116 : decode cX7_command 116 = .ok (.aload_n 0, 1) := by decide +kernel
theorem dX7_command_117 : decode cX7_command 117 = .ok (.getfield 16, 3) := by decide +kernel
theorem dX7_command_120 : decode cX7_command 120 = .ok (.iload_n 2, 1) := by decide +kernel
theorem dX7_command_121 : decode cX7_command 121 = .ok (.iload_n 3, 1) := by decide +kernel
theorem dX7_command_122 : decode cX7_command 122 = .ok (.iconst 0, 1) := by decide +kernel
theorem dX7_command_123 : decode cX7_command 123 = .ok (.invokestatic 105, 3) := by decide +kernel
theorem dX7_command_126 : decode cX7_command 126 = .ok (.iconst 1, 1) := by decide +kernel
theorem dX7_command_127 : decode cX7_command 127 = .ok (.ireturn, 1) := by decide +kernel
theorem dX7_command_128 : decode cX7_command 128 = .ok (.iload 4, 2) := by decide +kernel
theorem dX7_command_130 : decode cX7_command 130 = .ok (.ireturn, 1) := by decide +kernel
theorem dX7_command_131 : decode cX7_command 131 = .ok (.iload 4, 2) := by decide +kernel
theorem dX7_command_133 : decode cX7_command 133 = .ok (.ifCond .eq 21, 3) := by decide +kernel
theorem dX7_command_136 : decode cX7_command 136 = .ok (.aload_n 0, 1) := by decide +kernel
theorem dX7_command_137 : decode cX7_command 137 = .ok (.aload_n 0, 1) := by decide +kernel
theorem dX7_command_138 : decode cX7_command 138 = .ok (.getfield 16, 3) := by decide +kernel
theorem dX7_command_141 : decode cX7_command 141 = .ok (.iload_n 2, 1) := by decide +kernel
theorem dX7_command_142 : decode cX7_command 142 = .ok (.iconst 0, 1) := by decide +kernel
theorem dX7_command_143 : decode cX7_command 143 = .ok (.invokevirtual 150, 3) := by decide +kernel
theorem dX7_command_146 : decode cX7_command 146 = .ok (.iload_n 3, 1) := by decide +kernel
theorem dX7_command_147 : decode cX7_command 147 = .ok (.if_icmp .ne 7, 3) := by decide +kernel
theorem dX7_command_150 : decode cX7_command 150 = .ok (.iconst 1, 1) := by decide +kernel
theorem dX7_command_151 : decode cX7_command 151 = .ok (.goto 4, 3) := by decide +kernel
theorem dX7_command_154 : decode cX7_command 154 = .ok (.iconst 0, 1) := by decide +kernel
theorem dX7_command_155 : decode cX7_command 155 = .ok (.ireturn, 1) := by decide +kernel
theorem dX7_command_156 : decode cX7_command 156 = .ok (.iload 4, 2) := by decide +kernel
theorem dX7_command_158 : decode cX7_command 158 = .ok (.ifCond .eq 8, 3) := by decide +kernel
theorem dX7_command_161 : decode cX7_command 161 = .ok (.iload_n 2, 1) := by decide +kernel
theorem dX7_command_162 : decode cX7_command 162 = .ok (.iload_n 3, 1) := by decide +kernel
theorem dX7_command_163 : decode cX7_command 163 = .ok (.if_icmp .ne 5, 3) := by decide +kernel
theorem dX7_command_166 : decode cX7_command 166 = .ok (.iconst 0, 1) := by decide +kernel
theorem dX7_command_167 : decode cX7_command 167 = .ok (.ireturn, 1) := by decide +kernel
theorem dX7_command_168 : decode cX7_command 168 = .ok (.aload_n 0, 1) := by decide +kernel
theorem dX7_command_169 : decode cX7_command 169 = .ok (.aload_n 0, 1) := by decide +kernel
theorem dX7_command_170 : decode cX7_command 170 = .ok (.getfield 16, 3) := by decide +kernel
theorem dX7_command_173 : decode cX7_command 173 = .ok (.iload_n 2, 1) := by decide +kernel
theorem dX7_command_174 : decode cX7_command 174 = .ok (.invokevirtual 185, 3) := by decide +kernel
theorem dX7_command_177 : decode cX7_command 177 = .ok (.aload_n 0, 1) := by decide +kernel
theorem dX7_command_178 : decode cX7_command 178 = .ok (.getfield 53, 3) := by decide +kernel
theorem dX7_command_181 : decode cX7_command 181 = .ok (.iload_n 2, 1) := by decide +kernel
theorem dX7_command_182 : decode cX7_command 182 = .ok (.iaload, 1) := by decide +kernel
theorem dX7_command_183 : decode cX7_command 183 = .ok (.bipush (-9), 2) := by decide +kernel
theorem dX7_command_185 : decode cX7_command 185 = .ok (.if_icmp .eq 33, 3) := by decide +kernel
theorem dX7_command_188 : decode cX7_command 188 = .ok (.aload_n 0, 1) := by decide +kernel
theorem dX7_command_189 : decode cX7_command 189 = .ok (.getfield 53, 3) := by decide +kernel
theorem dX7_command_192 : decode cX7_command 192 = .ok (.iload_n 3, 1) := by decide +kernel
theorem dX7_command_193 : decode cX7_command 193 = .ok (.iaload, 1) := by decide +kernel
theorem dX7_command_194 : decode cX7_command 194 = .ok (.bipush (-9), 2) := by decide +kernel
theorem dX7_command_196 : decode cX7_command 196 = .ok (.if_icmp .eq 18, 3) := by decide +kernel
theorem dX7_command_199 : decode cX7_command 199 = .ok (.aload_n 0, 1) := by decide +kernel
theorem dX7_command_200 : decode cX7_command 200 = .ok (.getfield 53, 3) := by decide +kernel
theorem dX7_command_203 : decode cX7_command 203 = .ok (.iload_n 2, 1) := by decide +kernel
theorem dX7_command_204 : decode cX7_command 204 = .ok (.iaload, 1) := by decide +kernel
theorem dX7_command_205 : decode cX7_command 205 = .ok (.aload_n 0, 1) := by decide +kernel
theorem dX7_command_206 : decode cX7_command 206 = .ok (.getfield 53, 3) := by decide +kernel
theorem dX7_command_209 : decode cX7_command 209 = .ok (.iload_n 3, 1) := by decide +kernel
theorem dX7_command_210 : decode cX7_command 210 = .ok (.iaload, 1) := by decide +kernel
theorem dX7_command_211 : decode cX7_command 211 = .ok (.if_icmp .ge 7, 3) := by decide +kernel
theorem dX7_command_214 : decode cX7_command 214 = .ok (.iconst 1, 1) := by decide +kernel
theorem dX7_command_215 : decode cX7_command 215 = .ok (.goto 4, 3) := by decide +kernel
theorem dX7_command_218 : decode cX7_command 218 = .ok (.iconst 0, 1) := by decide +kernel
theorem dX7_command_219 : decode cX7_command 219 = .ok (.ireturn, 1) := by decide +kernel
theorem dX7_command_220 : decode cX7_command 220 = .ok (.iconst 0, 1) := by decide +kernel
theorem dX7_command_221 : decode cX7_command 221 = .ok (.ireturn, 1) := by decide +kernel
theorem dX7_hundredThousands_0 : decode cX7_hundredThousands 0 = .ok (.lconst 1, 1) := by decide +kernel
theorem dX7_hundredThousands_1 : decode cX7_hundredThousands 1 = .ok (.lstore_n 1, 1) := by decide +kernel
theorem dX7_hundredThousands_2 : decode cX7_hundredThousands 2 = .ok (.iconst 0, 1) := by decide +kernel
theorem dX7_hundredThousands_3 : decode cX7_hundredThousands 3 = .ok (.istore_n 3, 1) := by decide +kernel
theorem dX7_hundredThousands_4 : decode cX7_hundredThousands 4 = .ok (.iload_n 3, 1) := by decide +kernel
theorem dX7_hundredThousands_5 : decode cX7_hundredThousands 5 = .ok (.iload_n 0, 1) := by decide +kernel
theorem dX7_hundredThousands_6 : decode cX7_hundredThousands 6 = .ok (.if_icmp .ge 15, 3) := by decide +kernel
theorem dX7_hundredThousands_9 : decode cX7_hundredThousands 9 = .ok (.lload_n 1, 1) := by decide +kernel
theorem dX7_hundredThousands_10 : decode cX7_hundredThousands 10 = .ok (.ldc2_w 208, 3) := by decide +kernel
theorem dX7_hundredThousands_13 : decode cX7_hundredThousands 13 = .ok (.lmul, 1) := by decide +kernel
theorem dX7_hundredThousands_14 : decode cX7_hundredThousands 14 = .ok (.lstore_n 1, 1) := by decide +kernel
theorem dX7_hundredThousands_15 : decode cX7_hundredThousands 15 = .ok (.iinc 3 1, 3) := by decide +kernel
theorem dX7_hundredThousands_18 : decode cX7_hundredThousands 18 = .ok (.goto (-14), 3) := by decide +kernel
theorem dX7_hundredThousands_21 : decode cX7_hundredThousands 21 = .ok (.lload_n 1, 1) := by decide +kernel
theorem dX7_hundredThousands_22 : decode cX7_hundredThousands 22 = .ok (.lreturn, 1) := by decide +kernel
theorem dX7_runScript_0 : decode cX7_runScript 0 = .ok (.iload_n 1, 1) := by decide +kernel
theorem dX7_runScript_1 : decode cX7_runScript 1 = .ok (.i2l, 1) := by decide +kernel
theorem dX7_runScript_2 : decode cX7_runScript 2 = .ok (.lconst 1, 1) := by decide +kernel
theorem dX7_runScript_3 : decode cX7_runScript 3 = .ok (.ldc2_w 210, 3) := by decide +kernel
theorem dX7_runScript_6 : decode cX7_runScript 6 = .ok (.invokestatic 60, 3) := by decide +kernel
theorem dX7_runScript_9 : decode cX7_runScript 9 = .ok (.ifCond .eq 17, 3) := by decide +kernel
theorem dX7_runScript_12 : decode cX7_runScript 12 = .ok (.lload_n 2, 1) := by decide +kernel
theorem dX7_runScript_13 : decode cX7_runScript 13 = .ok (.lconst 0, 1) := by decide +kernel
theorem dX7_runScript_14 : decode cX7_runScript 14 = .ok (.iload_n 1, 1) := by decide +kernel
theorem dX7_runScript_15 : decode cX7_runScript 15 = .ok (.invokestatic 212, 3) := by decide +kernel
theorem dX7_runScript_18 : decode cX7_runScript 18 = .ok (.lconst 1, 1) := by decide +kernel
theorem dX7_runScript_19 : decode cX7_runScript 19 = .ok (.lsub, 1) := by decide +kernel
theorem dX7_runScript_20 : decode cX7_runScript 20 = .ok (.invokestatic 60, 3) := by decide +kernel
theorem dX7_runScript_23 : decode cX7_runScript 23 = .ok (.ifCond .ne 6, 3) := by decide +kernel
theorem dX7_runScript_26 : decode cX7_runScript 26 = .ok (.bipush (-2), 2) := by decide +kernel
theorem dX7_runScript_28 : decode cX7_runScript 28 = .ok (.ireturn, 1) := by decide +kernel
theorem dX7_runScript_29 : decode cX7_runScript 29 = .ok (.aload_n 0, 1) := by decide +kernel
theorem dX7_runScript_30 : decode cX7_runScript 30 = .ok (.getfield 13, 3) := by decide +kernel
theorem dX7_runScript_33 : decode cX7_runScript 33 = .ok (.aload_n 0, 1) := by decide +kernel
theorem dX7_runScript_34 : decode cX7_runScript 34 = .ok (.getfield 16, 3) := by decide +kernel
theorem dX7_runScript_37 : decode cX7_runScript 37 = .ok (.invokestatic 117, 3) := by decide +kernel
theorem dX7_runScript_40 : decode cX7_runScript 40 = .ok (.iconst 0, 1) := by decide +kernel
theorem dX7_runScript_41 : decode cX7_runScript 41 = .ok (.istore 4, 2) := by decide +kernel
theorem dX7_runScript_43 : decode cX7_runScript 43 = .ok (.iload 4, 2) := by decide +kernel
theorem dX7_runScript_45 : decode cX7_runScript 45 = .ok (.iload_n 1, 1) := by decide +kernel
theorem dX7_runScript_46 : decode cX7_runScript 46 = .ok (.if_icmp .ge 56, 3) := by decide +kernel
theorem dX7_runScript_49 : decode cX7_runScript 49 = .ok (.lload_n 2, 1) := by decide +kernel
theorem dX7_runScript_50 : decode cX7_runScript 50 = .ok (.iload_n 1, 1) := by decide +kernel
theorem dX7_runScript_51 : decode cX7_runScript 51 = .ok (.iconst 1, 1) := by decide +kernel
theorem dX7_runScript_52 : decode cX7_runScript 52 = .ok (.isub, 1) := by decide +kernel
theorem dX7_runScript_53 : decode cX7_runScript 53 = .ok (.iload 4, 2) := by decide +kernel
theorem dX7_runScript_55 : decode cX7_runScript 55 = .ok (.isub, 1) := by decide +kernel
theorem dX7_runScript_56 : decode cX7_runScript 56 = .ok (.invokestatic 212, 3) := by decide +kernel
theorem dX7_runScript_59 : decode cX7_runScript 59 = .ok (.ldiv, 1) := by decide +kernel
theorem dX7_runScript_60 : decode cX7_runScript 60 = .ok (.ldc2_w 208, 3) := by decide +kernel
theorem dX7_runScript_63 : decode cX7_runScript 63 = .ok (.lrem, 1) := by decide +kernel
theorem dX7_runScript_64 : decode cX7_runScript 64 = .ok (.l2i, 1) := by decide +kernel
theorem dX7_runScript_65 : decode cX7_runScript 65 = .ok (.istore 5, 2) := by decide +kernel
theorem dX7_runScript_67 : decode cX7_runScript 67 = .ok (.aload_n 0, 1) := by decide +kernel
theorem dX7_runScript_68 : decode cX7_runScript 68 = .ok (.iload 5, 2) := by decide +kernel
theorem dX7_runScript_70 : decode cX7_runScript 70 = .ok (.sipush 10000, 3) := by decide +kernel
theorem dX7_runScript_73 : decode cX7_runScript 73 = .ok (.idiv, 1) := by decide +kernel
theorem dX7_runScript_74 : decode cX7_runScript 74 = .ok (.iload 5, 2) := by decide +kernel
theorem dX7_runScript_76 : decode cX7_runScript 76 = .ok (.bipush 100, 2) := by decide +kernel
theorem dX7_runScript_78 : decode cX7_runScript 78 = .ok (.idiv, 1) := by decide +kernel
theorem dX7_runScript_79 : decode cX7_runScript 79 = .ok (.bipush 100, 2) := by decide +kernel
theorem dX7_runScript_81 : decode cX7_runScript 81 = .ok (.irem, 1) := by decide +kernel
theorem dX7_runScript_82 : decode cX7_runScript 82 = .ok (.iload 5, 2) := by decide +kernel
theorem dX7_runScript_84 : decode cX7_runScript 84 = .ok (.bipush 100, 2) := by decide +kernel
theorem dX7_runScript_86 : decode cX7_runScript 86 = .ok (.irem, 1) := by decide +kernel
theorem dX7_runScript_87 : decode cX7_runScript 87 = .ok (.invokevirtual 216, 3) := by decide +kernel
theorem dX7_runScript_90 : decode cX7_runScript 90 = .ok (.ifCond .ne 6, 3) := by decide +kernel
theorem dX7_runScript_93 : decode cX7_runScript 93 = .ok (.iload 4, 2) := by decide +kernel
theorem dX7_runScript_95 : decode cX7_runScript 95 = .ok (.ireturn, 1) := by decide +kernel
theorem dX7_runScript_96 : decode cX7_runScript 96 = .ok (.iinc 4 1, 3) := by decide +kernel
theorem dX7_runScript_99 : decode cX7_runScript 99 = .ok (.goto (-56), 3) := by decide +kernel
theorem dX7_runScript_102 : decode cX7_runScript 102 = .ok (.bipush (-9), 2) := by decide +kernel
theorem dX7_runScript_104 : decode cX7_runScript 104 = .ok (.ireturn, 1) := by decide +kernel
theorem dX7_randomChanges_0 : decode cX7_randomChanges 0 = .ok (.iload_n 3, 1) := by decide +kernel
theorem dX7_randomChanges_1 : decode cX7_randomChanges 1 = .ok (.i2l, 1) := by decide +kernel
theorem dX7_randomChanges_2 : decode cX7_randomChanges 2 = .ok (.lconst 1, 1) := by decide +kernel
theorem dX7_randomChanges_3 : decode cX7_randomChanges 3 = .ok (.ldc2_w 219, 3) := by decide +kernel
theorem dX7_randomChanges_6 : decode cX7_randomChanges 6 = .ok (.invokestatic 60, 3) := by decide +kernel
theorem dX7_randomChanges_9 : decode cX7_randomChanges 9 = .ok (.ifCond .ne 6, 3) := by decide +kernel
theorem dX7_randomChanges_12 : decode cX7_randomChanges 12 = .ok (.bipush (-2), 2) := by decide +kernel
theorem dX7_randomChanges_14 : decode cX7_randomChanges 14 = .ok (.ireturn, 1) := by decide +kernel
theorem dX7_randomChanges_15 : decode cX7_randomChanges 15 = .ok (.aload_n 0, 1) := by decide +kernel
theorem dX7_randomChanges_16 : decode cX7_randomChanges 16 = .ok (.getfield 13, 3) := by decide +kernel
theorem dX7_randomChanges_19 : decode cX7_randomChanges 19 = .ok (.aload_n 0, 1) := by decide +kernel
theorem dX7_randomChanges_20 : decode cX7_randomChanges 20 = .ok (.getfield 16, 3) := by decide +kernel
theorem dX7_randomChanges_23 : decode cX7_randomChanges 23 = .ok (.invokestatic 117, 3) := by decide +kernel
theorem dX7_randomChanges_26 : decode cX7_randomChanges 26 = .ok (.lload_n 1, 1) := by decide +kernel
theorem dX7_randomChanges_27 : decode cX7_randomChanges 27 = .ok (.lstore 4, 2) := by decide +kernel
theorem dX7_randomChanges_29 : decode cX7_randomChanges 29 = .ok (.iconst 0, 1) := by decide +kernel
theorem dX7_randomChanges_30 : decode cX7_randomChanges 30 = .ok (.istore 6, 2) := by decide +kernel
theorem dX7_randomChanges_32 : decode cX7_randomChanges 32 = .ok (.iconst 0, 1) := by decide +kernel
theorem dX7_randomChanges_33 : decode cX7_randomChanges 33 = .ok (.istore 7, 2) := by decide +kernel
theorem dX7_randomChanges_35 : decode cX7_randomChanges 35 = .ok (.iload 7, 2) := by decide +kernel
theorem dX7_randomChanges_37 : decode cX7_randomChanges 37 = .ok (.iload_n 3, 1) := by decide +kernel
theorem dX7_randomChanges_38 : decode cX7_randomChanges 38 = .ok (.if_icmp .ge 147, 3) := by decide +kernel
theorem dX7_randomChanges_41 : decode cX7_randomChanges 41 = .ok (.lload 4, 2) := by decide +kernel
theorem dX7_randomChanges_43 : decode cX7_randomChanges 43 = .ok (.ldc2_w 221, 3) := by decide +kernel
theorem dX7_randomChanges_46 : decode cX7_randomChanges 46 = .ok (.lmul, 1) := by decide +kernel
theorem dX7_randomChanges_47 : decode cX7_randomChanges 47 = .ok (.ldc2_w 223, 3) := by decide +kernel
theorem dX7_randomChanges_50 : decode cX7_randomChanges 50 = .ok (.ladd, 1) := by decide +kernel
theorem dX7_randomChanges_51 : decode cX7_randomChanges 51 = .ok (.lstore 4, 2) := by decide +kernel
theorem dX7_randomChanges_53 : decode cX7_randomChanges 53 = .ok (.lload 4, 2) := by decide +kernel
theorem dX7_randomChanges_55 : decode cX7_randomChanges 55 = .ok (.bipush 33, 2) := by decide +kernel
theorem dX7_randomChanges_57 : decode cX7_randomChanges 57 = .ok (.lushr, 1) := by decide +kernel
theorem dX7_randomChanges_58 : decode cX7_randomChanges 58 = .ok (.l2i, 1) := by decide +kernel
theorem dX7_randomChanges_59 : decode cX7_randomChanges 59 = .ok (.istore 8, 2) := by decide +kernel
theorem dX7_randomChanges_61 : decode cX7_randomChanges 61 = .ok (.iload 8, 2) := by decide +kernel
theorem dX7_randomChanges_63 : decode cX7_randomChanges 63 = .ok (.aload_n 0, 1) := by decide +kernel
theorem dX7_randomChanges_64 : decode cX7_randomChanges 64 = .ok (.getfield 56, 3) := by decide +kernel
theorem dX7_randomChanges_67 : decode cX7_randomChanges 67 = .ok (.irem, 1) := by decide +kernel
theorem dX7_randomChanges_68 : decode cX7_randomChanges 68 = .ok (.istore 9, 2) := by decide +kernel
theorem dX7_randomChanges_70 : decode cX7_randomChanges 70 = .ok (.iload 8, 2) := by decide +kernel
theorem dX7_randomChanges_72 : decode cX7_randomChanges 72 = .ok (.bipush 16, 2) := by decide +kernel
theorem dX7_randomChanges_74 : decode cX7_randomChanges 74 = .ok (.idiv, 1) := by decide +kernel
theorem dX7_randomChanges_75 : decode cX7_randomChanges 75 = .ok (.aload_n 0, 1) := by decide +kernel
theorem dX7_randomChanges_76 : decode cX7_randomChanges 76 = .ok (.getfield 56, 3) := by decide +kernel
theorem dX7_randomChanges_79 : decode cX7_randomChanges 79 = .ok (.irem, 1) := by decide +kernel
theorem dX7_randomChanges_80 : decode cX7_randomChanges 80 = .ok (.istore 10, 2) := by decide +kernel
theorem dX7_randomChanges_82 : decode cX7_randomChanges 82 = .ok (.iload 8, 2) := by decide +kernel
theorem dX7_randomChanges_84 : decode cX7_randomChanges 84 = .ok (.sipush 256, 3) := by decide +kernel
theorem dX7_randomChanges_87 : decode cX7_randomChanges 87 = .ok (.idiv, 1) := by decide +kernel
theorem dX7_randomChanges_88 : decode cX7_randomChanges 88 = .ok (.bipush 99, 2) := by decide +kernel
theorem dX7_randomChanges_90 : decode cX7_randomChanges 90 = .ok (.irem, 1) := by decide +kernel
theorem dX7_randomChanges_91 : decode cX7_randomChanges 91 = .ok (.iconst 1, 1) := by decide +kernel
theorem dX7_randomChanges_92 : decode cX7_randomChanges 92 = .ok (.iadd, 1) := by decide +kernel
theorem dX7_randomChanges_93 : decode cX7_randomChanges 93 = .ok (.istore 11, 2) := by decide +kernel
theorem dX7_randomChanges_95 : decode cX7_randomChanges 95 = .ok (.aload_n 0, 1) := by decide +kernel
theorem dX7_randomChanges_96 : decode cX7_randomChanges 96 = .ok (.getfield 16, 3) := by decide +kernel
theorem dX7_randomChanges_99 : decode cX7_randomChanges 99 = .ok (.iload 9, 2) := by decide +kernel
theorem dX7_randomChanges_101 : decode cX7_randomChanges 101 = .ok (.iload 10, 2) := by decide +kernel
theorem dX7_randomChanges_103 : decode cX7_randomChanges 103 = .ok (.invokestatic 64, 3) := by decide +kernel
theorem dX7_randomChanges_106 : decode cX7_randomChanges 106 = .ok (.iaload, 1) := by decide +kernel
theorem dX7_randomChanges_107 : decode cX7_randomChanges 107 = .ok (.ifCond .le 30, 3) := by decide +kernel
theorem dX7_randomChanges_110 : decode cX7_randomChanges 110 = .ok (.aload_n 0, 1) := by decide +kernel
theorem dX7_randomChanges_111 : decode cX7_randomChanges 111 = .ok (.getfield 16, 3) := by decide +kernel
theorem dX7_randomChanges_114 : decode cX7_randomChanges 114 = .ok (.iload 9, 2) := by decide +kernel
theorem dX7_randomChanges_116 : decode cX7_randomChanges 116 = .ok (.iload 10, 2) := by decide +kernel
theorem dX7_randomChanges_118 : decode cX7_randomChanges 118 = .ok (.iload 11, 2) := by decide +kernel
theorem dX7_randomChanges_120 : decode cX7_randomChanges 120 = .ok (.iconst 2, 1) := by decide +kernel
theorem dX7_randomChanges_121 : decode cX7_randomChanges 121 = .ok (.irem, 1) := by decide +kernel
theorem dX7_randomChanges_122 : decode cX7_randomChanges 122 = .ok (.ifCond .ne 7, 3) := by decide +kernel
theorem dX7_randomChanges_125 : decode cX7_randomChanges 125 = .ok (.iconst 0, 1) := by decide +kernel
theorem dX7_randomChanges_126 : decode cX7_randomChanges 126 = .ok (.goto 5, 3) := by decide +kernel
theorem dX7_randomChanges_129 : decode cX7_randomChanges 129 = .ok (.iload 11, 2) := by decide +kernel
theorem dX7_randomChanges_131 : decode cX7_randomChanges 131 = .ok (.invokestatic 105, 3) := by decide +kernel
theorem dX7_randomChanges_134 : decode cX7_randomChanges 134 = .ok (.goto 31, 3) := by decide +kernel
theorem dX7_randomChanges_137 : decode cX7_randomChanges 137 = .ok (.aload_n 0, 1) := by decide +kernel
theorem dX7_randomChanges_138 : decode cX7_randomChanges 138 = .ok (.aload_n 0, 1) := by decide +kernel
theorem dX7_randomChanges_139 : decode cX7_randomChanges 139 = .ok (.getfield 16, 3) := by decide +kernel
theorem dX7_randomChanges_142 : decode cX7_randomChanges 142 = .ok (.iload 9, 2) := by decide +kernel
theorem dX7_randomChanges_144 : decode cX7_randomChanges 144 = .ok (.iload 10, 2) := by decide +kernel
theorem dX7_randomChanges_146 : decode cX7_randomChanges 146 = .ok (.invokevirtual 98, 3) := by decide +kernel
theorem dX7_randomChanges_149 : decode cX7_randomChanges 149 = .ok (.ifCond .ne 16, 3) := by decide +kernel
theorem dX7_randomChanges_152 : decode cX7_randomChanges 152 = .ok (.aload_n 0, 1) := by decide +kernel
theorem dX7_randomChanges_153 : decode cX7_randomChanges 153 = .ok (.getfield 16, 3) := by decide +kernel
theorem dX7_randomChanges_156 : decode cX7_randomChanges 156 = .ok (.iload 9, 2) := by decide +kernel
theorem dX7_randomChanges_158 : decode cX7_randomChanges 158 = .ok (.iload 10, 2) := by decide +kernel
theorem dX7_randomChanges_160 : decode cX7_randomChanges 160 = .ok (.iload 11, 2) := by decide +kernel
theorem dX7_randomChanges_162 : decode cX7_randomChanges 162 = .ok (.invokestatic 105, 3) := by decide +kernel
theorem dX7_randomChanges_165 : decode cX7_randomChanges 165 = .ok (.iload 6, 2) := by decide +kernel
theorem dX7_randomChanges_167 : decode cX7_randomChanges 167 = .ok (.aload_n 0, 1) := by decide +kernel
theorem dX7_randomChanges_168 : decode cX7_randomChanges 168 = .ok (.aload_n 0, 1) := by decide +kernel
theorem dX7_randomChanges_169 : decode cX7_randomChanges 169 = .ok (.getfield 16, 3) := by decide +kernel
theorem dX7_randomChanges_172 : decode cX7_randomChanges 172 = .ok (.iconst 0, 1) := by decide +kernel
theorem dX7_randomChanges_173 : decode cX7_randomChanges 173 = .ok (.invokevirtual 147, 3) := by decide +kernel
theorem dX7_randomChanges_176 : decode cX7_randomChanges 176 = .ok (.iadd, 1) := by decide +kernel
theorem dX7_randomChanges_177 : decode cX7_randomChanges 177 = .ok (.istore 6, 2) := by decide +kernel
theorem dX7_randomChanges_179 : decode cX7_randomChanges 179 = .ok (.iinc 7 1, 3) := by decide +kernel
theorem dX7_randomChanges_182 : decode cX7_randomChanges 182 = .ok (.goto (-147), 3) := by decide +kernel
theorem dX7_randomChanges_185 : decode cX7_randomChanges 185 = .ok (.iload 6, 2) := by decide +kernel
theorem dX7_randomChanges_187 : decode cX7_randomChanges 187 = .ok (.ireturn, 1) := by decide +kernel
theorem dX7_save_0 : decode cX7_save 0 = .ok (.iload_n 1, 1) := by decide +kernel
theorem dX7_save_1 : decode cX7_save 1 = .ok (.i2l, 1) := by decide +kernel
theorem dX7_save_2 : decode cX7_save 2 = .ok (.lconst 0, 1) := by decide +kernel
theorem dX7_save_3 : decode cX7_save 3 = .ok (.lconst 1, 1) := by decide +kernel
theorem dX7_save_4 : decode cX7_save 4 = .ok (.invokestatic 60, 3) := by decide +kernel
theorem dX7_save_7 : decode cX7_save 7 = .ok (.ifCond .ne 5, 3) := by decide +kernel
theorem dX7_save_10 : decode cX7_save 10 = .ok (.iconst (-1), 1) := by decide +kernel
theorem dX7_save_11 : decode cX7_save 11 = .ok (.ireturn, 1) := by decide +kernel
theorem dX7_save_12 : decode cX7_save 12 = .ok (.aload_n 0, 1) := by decide +kernel
theorem dX7_save_13 : decode cX7_save 13 = .ok (.getfield 28, 3) := by decide +kernel
theorem dX7_save_16 : decode cX7_save 16 = .ok (.iload_n 1, 1) := by decide +kernel
theorem dX7_save_17 : decode cX7_save 17 = .ok (.iconst 1, 1) := by decide +kernel
theorem dX7_save_18 : decode cX7_save 18 = .ok (.bastore, 1) := by decide +kernel
theorem dX7_save_19 : decode cX7_save 19 = .ok (.iconst 0, 1) := by decide +kernel
theorem dX7_save_20 : decode cX7_save 20 = .ok (.istore_n 2, 1) := by decide +kernel
theorem dX7_save_21 : decode cX7_save 21 = .ok (.iload_n 2, 1) := by decide +kernel
theorem dX7_save_22 : decode cX7_save 22 = .ok (.sipush 156, 3) := by decide +kernel
theorem dX7_save_25 : decode cX7_save 25 = .ok (.if_icmp .ge 27, 3) := by decide +kernel
theorem dX7_save_28 : decode cX7_save 28 = .ok (.aload_n 0, 1) := by decide +kernel
theorem dX7_save_29 : decode cX7_save 29 = .ok (.getfield 25, 3) := by decide +kernel
theorem dX7_save_32 : decode cX7_save 32 = .ok (.sipush 156, 3) := by decide +kernel
theorem dX7_save_35 : decode cX7_save 35 = .ok (.iload_n 1, 1) := by decide +kernel
theorem dX7_save_36 : decode cX7_save 36 = .ok (.imul, 1) := by decide +kernel
theorem dX7_save_37 : decode cX7_save 37 = .ok (.iload_n 2, 1) := by decide +kernel
theorem dX7_save_38 : decode cX7_save 38 = .ok (.iadd, 1) := by decide +kernel
theorem dX7_save_39 : decode cX7_save 39 = .ok (.aload_n 0, 1) := by decide +kernel
theorem dX7_save_40 : decode cX7_save 40 = .ok (.getfield 13, 3) := by decide +kernel
theorem dX7_save_43 : decode cX7_save 43 = .ok (.iload_n 2, 1) := by decide +kernel
theorem dX7_save_44 : decode cX7_save 44 = .ok (.iaload, 1) := by decide +kernel
theorem dX7_save_45 : decode cX7_save 45 = .ok (.iastore, 1) := by decide +kernel
theorem dX7_save_46 : decode cX7_save 46 = .ok (.iinc 2 1, 3) := by decide +kernel
theorem dX7_save_49 : decode cX7_save 49 = .ok (.goto (-28), 3) := by decide +kernel
theorem dX7_save_52 : decode cX7_save 52 = .ok (.aload_n 0, 1) := by decide +kernel
theorem dX7_save_53 : decode cX7_save 53 = .ok (.getfield 13, 3) := by decide +kernel
theorem dX7_save_56 : decode cX7_save 56 = .ok (.invokestatic 124, 3) := by decide +kernel
theorem dX7_save_59 : decode cX7_save 59 = .ok (.ireturn, 1) := by decide +kernel
theorem dX7_restore_0 : decode cX7_restore 0 = .ok (.iload_n 1, 1) := by decide +kernel
theorem dX7_restore_1 : decode cX7_restore 1 = .ok (.i2l, 1) := by decide +kernel
theorem dX7_restore_2 : decode cX7_restore 2 = .ok (.lconst 0, 1) := by decide +kernel
theorem dX7_restore_3 : decode cX7_restore 3 = .ok (.lconst 1, 1) := by decide +kernel
theorem dX7_restore_4 : decode cX7_restore 4 = .ok (.invokestatic 60, 3) := by decide +kernel
theorem dX7_restore_7 : decode cX7_restore 7 = .ok (.ifCond .ne 5, 3) := by decide +kernel
theorem dX7_restore_10 : decode cX7_restore 10 = .ok (.iconst (-1), 1) := by decide +kernel
theorem dX7_restore_11 : decode cX7_restore 11 = .ok (.ireturn, 1) := by decide +kernel
theorem dX7_restore_12 : decode cX7_restore 12 = .ok (.aload_n 0, 1) := by decide +kernel
theorem dX7_restore_13 : decode cX7_restore 13 = .ok (.getfield 28, 3) := by decide +kernel
theorem dX7_restore_16 : decode cX7_restore 16 = .ok (.iload_n 1, 1) := by decide +kernel
theorem dX7_restore_17 : decode cX7_restore 17 = .ok (.baload, 1) := by decide +kernel
theorem dX7_restore_18 : decode cX7_restore 18 = .ok (.ifCond .ne 6, 3) := by decide +kernel
theorem dX7_restore_21 : decode cX7_restore 21 = .ok (.bipush (-3), 2) := by decide +kernel
theorem dX7_restore_23 : decode cX7_restore 23 = .ok (.ireturn, 1) := by decide +kernel
theorem dX7_restore_24 : decode cX7_restore 24 = .ok (.iconst 0, 1) := by decide +kernel
theorem dX7_restore_25 : decode cX7_restore 25 = .ok (.istore_n 2, 1) := by decide +kernel
theorem dX7_restore_26 : decode cX7_restore 26 = .ok (.iload_n 2, 1) := by decide +kernel
theorem dX7_restore_27 : decode cX7_restore 27 = .ok (.sipush 156, 3) := by decide +kernel
theorem dX7_restore_30 : decode cX7_restore 30 = .ok (.if_icmp .ge 27, 3) := by decide +kernel
theorem dX7_restore_33 : decode cX7_restore 33 = .ok (.aload_n 0, 1) := by decide +kernel
theorem dX7_restore_34 : decode cX7_restore 34 = .ok (.getfield 13, 3) := by decide +kernel
theorem dX7_restore_37 : decode cX7_restore 37 = .ok (.iload_n 2, 1) := by decide +kernel
theorem dX7_restore_38 : decode cX7_restore 38 = .ok (.aload_n 0, 1) := by decide +kernel
theorem dX7_restore_39 : decode cX7_restore 39 = .ok (.getfield 25, 3) := by decide +kernel
theorem dX7_restore_42 : decode cX7_restore 42 = .ok (.sipush 156, 3) := by decide +kernel
theorem dX7_restore_45 : decode cX7_restore 45 = .ok (.iload_n 1, 1) := by decide +kernel
theorem dX7_restore_46 : decode cX7_restore 46 = .ok (.imul, 1) := by decide +kernel
theorem dX7_restore_47 : decode cX7_restore 47 = .ok (.iload_n 2, 1) := by decide +kernel
theorem dX7_restore_48 : decode cX7_restore 48 = .ok (.iadd, 1) := by decide +kernel
theorem dX7_restore_49 : decode cX7_restore 49 = .ok (.iaload, 1) := by decide +kernel
theorem dX7_restore_50 : decode cX7_restore 50 = .ok (.iastore, 1) := by decide +kernel
theorem dX7_restore_51 : decode cX7_restore 51 = .ok (.iinc 2 1, 3) := by decide +kernel
theorem dX7_restore_54 : decode cX7_restore 54 = .ok (.goto (-28), 3) := by decide +kernel
theorem dX7_restore_57 : decode cX7_restore 57 = .ok (.aload_n 0, 1) := by decide +kernel
theorem dX7_restore_58 : decode cX7_restore 58 = .ok (.iconst 0, 1) := by decide +kernel
theorem dX7_restore_59 : decode cX7_restore 59 = .ok (.putfield 121, 3) := by decide +kernel
theorem dX7_restore_62 : decode cX7_restore 62 = .ok (.aload_n 0, 1) := by decide +kernel
theorem dX7_restore_63 : decode cX7_restore 63 = .ok (.getfield 13, 3) := by decide +kernel
theorem dX7_restore_66 : decode cX7_restore 66 = .ok (.invokestatic 124, 3) := by decide +kernel
theorem dX7_restore_69 : decode cX7_restore 69 = .ok (.ireturn, 1) := by decide +kernel
