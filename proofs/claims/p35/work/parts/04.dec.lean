theorem dX5_init_0 : decode cX5_init 0 = .ok (.aload_n 0, 1) := by decide +kernel
theorem dX5_init_1 : decode cX5_init 1 = .ok (.invokespecial 3, 3) := by decide +kernel
theorem dX5_init_4 : decode cX5_init 4 = .ok (.aload_n 0, 1) := by decide +kernel
theorem dX5_init_5 : decode cX5_init 5 = .ok (.aload_n 1, 1) := by decide +kernel
theorem dX5_init_6 : decode cX5_init 6 = .ok (.putfield 9, 3) := by decide +kernel
theorem dX5_init_9 : decode cX5_init 9 = .ok (.aload_n 0, 1) := by decide +kernel
theorem dX5_init_10 : decode cX5_init 10 = .ok (.bipush 12, 2) := by decide +kernel
theorem dX5_init_12 : decode cX5_init 12 = .ok (.bipush 12, 2) := by decide +kernel
theorem dX5_init_14 : decode cX5_init 14 = .ok (.multianewarray 15 2, 4) := by decide +kernel
theorem dX5_init_18 : decode cX5_init 18 = .ok (.putfield 17, 3) := by decide +kernel
theorem dX5_init_21 : decode cX5_init 21 = .ok (.return_, 1) := by decide +kernel
theorem dX5_measure_0 : decode cX5_measure 0 = .ok (.aload_n 0, 1) := by decide +kernel
theorem dX5_measure_1 : decode cX5_measure 1 = .ok (.aload_n 0, 1) := by decide +kernel
theorem dX5_measure_2 : decode cX5_measure 2 = .ok (.getfield 9, 3) := by decide +kernel
theorem dX5_measure_5 : decode cX5_measure 5 = .ok (.invokevirtual 20, 3) := by decide +kernel
theorem dX5_measure_8 : decode cX5_measure 8 = .ok (.putfield 26, 3) := by decide +kernel
theorem dX5_measure_11 : decode cX5_measure 11 = .ok (.iconst 0, 1) := by decide +kernel
theorem dX5_measure_12 : decode cX5_measure 12 = .ok (.istore_n 1, 1) := by decide +kernel
theorem dX5_measure_13 : decode cX5_measure 13 = .ok (.iload_n 1, 1) := by decide +kernel
theorem dX5_measure_14 : decode cX5_measure 14 = .ok (.aload_n 0, 1) := by decide +kernel
theorem dX5_measure_15 : decode cX5_measure 15 = .ok (.getfield 26, 3) := by decide +kernel
theorem dX5_measure_18 : decode cX5_measure 18 = .ok (.if_icmp .ge 62, 3) := by decide +kernel
theorem dX5_measure_21 : decode cX5_measure 21 = .ok (.iconst 0, 1) := by decide +kernel
theorem dX5_measure_22 : decode cX5_measure 22 = .ok (.istore_n 2, 1) := by decide +kernel
theorem dX5_measure_23 : decode cX5_measure 23 = .ok (.iload_n 2, 1) := by decide +kernel
theorem dX5_measure_24 : decode cX5_measure 24 = .ok (.aload_n 0, 1) := by decide +kernel
theorem dX5_measure_25 : decode cX5_measure 25 = .ok (.getfield 26, 3) := by decide +kernel
theorem dX5_measure_28 : decode cX5_measure 28 = .ok (.if_icmp .ge 37, 3) := by decide +kernel
theorem dX5_measure_31 : decode cX5_measure 31 = .ok (.aload_n 0, 1) := by decide +kernel
theorem dX5_measure_32 : decode cX5_measure 32 = .ok (.getfield 9, 3) := by decide +kernel
theorem dX5_measure_35 : decode cX5_measure 35 = .ok (.iload_n 1, 1) := by decide +kernel
theorem dX5_measure_36 : decode cX5_measure 36 = .ok (.iload_n 2, 1) := by decide +kernel
theorem dX5_measure_37 : decode cX5_measure 37 = .ok (.invokevirtual 30, 3) := by decide +kernel
theorem dX5_measure_40 : decode cX5_measure 40 = .ok (.istore_n 3, 1) := by decide +kernel
theorem dX5_measure_41 : decode cX5_measure 41 = .ok (.aload_n 0, 1) := by decide +kernel
theorem dX5_measure_42 : decode cX5_measure 42 = .ok (.getfield 17, 3) := by decide +kernel
theorem dX5_measure_45 : decode cX5_measure 45 = .ok (.iload_n 1, 1) := by decide +kernel
theorem dX5_measure_46 : decode cX5_measure 46 = .ok (.aaload, 1) := by decide +kernel
theorem dX5_measure_47 : decode cX5_measure 47 = .ok (.iload_n 2, 1) := by decide +kernel
theorem dX5_measure_48 : decode cX5_measure 48 = .ok (.iload_n 3, 1) := by decide +kernel
theorem dX5_measure_49 : decode cX5_measure 49 = .ok (.ifCond .ne 8, 3) := by decide +kernel
theorem dX5_measure_52 : decode cX5_measure 52 = .ok (.ldc 34, 2) := by decide +kernel
theorem dX5_measure_54 : decode cX5_measure 54 = .ok (.goto 4, 3) := by decide +kernel
theorem dX5_measure_57 : decode cX5_measure 57 = .ok (.iload_n 3, 1) := by decide +kernel
theorem dX5_measure_58 : decode cX5_measure 58 = .ok (.iastore, 1) := by decide +kernel
theorem dX5_measure_59 : decode cX5_measure 59 = .ok (.iinc 2 1, 3) := by decide +kernel
theorem dX5_measure_62 : decode cX5_measure 62 = .ok (.goto (-39), 3) := by decide +kernel
theorem dX5_measure_65 : decode cX5_measure 65 = .ok (.aload_n 0, 1) := by decide +kernel
theorem dX5_measure_66 : decode cX5_measure 66 = .ok (.getfield 17, 3) := by decide +kernel
theorem dX5_measure_69 : decode cX5_measure 69 = .ok (.iload_n 1, 1) := by decide +kernel
theorem dX5_measure_70 : decode cX5_measure 70 = .ok (.aaload, 1) := by decide +kernel
theorem dX5_measure_71 : decode cX5_measure 71 = .ok (.iload_n 1, 1) := by decide +kernel
theorem dX5_measure_72 : decode cX5_measure 72 = .ok (.iconst 0, 1) := by decide +kernel
theorem dX5_measure_73 : decode cX5_measure 73 = .ok (.iastore, 1) := by decide +kernel
theorem dX5_measure_74 : decode cX5_measure 74 = .ok (.iinc 1 1, 3) := by decide +kernel
theorem dX5_measure_77 : decode cX5_measure 77 = .ok (.goto (-64), 3) := by decide +kernel
theorem dX5_measure_80 : decode cX5_measure 80 = .ok (.iconst 0, 1) := by decide +kernel
theorem dX5_measure_81 : decode cX5_measure 81 = .ok (.istore_n 1, 1) := by decide +kernel
theorem dX5_measure_82 : decode cX5_measure 82 = .ok (.iload_n 1, 1) := by decide +kernel
theorem dX5_measure_83 : decode cX5_measure 83 = .ok (.aload_n 0, 1) := by decide +kernel
theorem dX5_measure_84 : decode cX5_measure 84 = .ok (.getfield 26, 3) := by decide +kernel
theorem dX5_measure_87 : decode cX5_measure 87 = .ok (.if_icmp .ge 31, 3) := by decide +kernel
theorem dX5_measure_90 : decode cX5_measure 90 = .ok (.iconst 0, 1) := by decide +kernel
theorem dX5_measure_91 : decode cX5_measure 91 = .ok (.istore_n 2, 1) := by decide +kernel
theorem dX5_measure_92 : decode cX5_measure 92 = .ok (.iload_n 2, 1) := by decide +kernel
theorem dX5_measure_93 : decode cX5_measure 93 = .ok (.aload_n 0, 1) := by decide +kernel
theorem dX5_measure_94 : decode cX5_measure 94 = .ok (.getfield 26, 3) := by decide +kernel
theorem dX5_measure_97 : decode cX5_measure 97 = .ok (.if_icmp .ge 15, 3) := by decide +kernel
theorem dX5_measure_100 : decode cX5_measure 100 = .ok (.aload_n 0, 1) := by decide +kernel
theorem dX5_measure_101 : decode cX5_measure 101 = .ok (.iload_n 1, 1) := by decide +kernel
theorem dX5_measure_102 : decode cX5_measure 102 = .ok (.iload_n 2, 1) := by decide +kernel
theorem dX5_measure_103 : decode cX5_measure 103 = .ok (.invokevirtual 35, 3) := by decide +kernel
theorem dX5_measure_106 : decode cX5_measure 106 = .ok (.iinc 2 1, 3) := by decide +kernel
theorem dX5_measure_109 : decode cX5_measure 109 = .ok (.goto (-17), 3) := by decide +kernel
theorem dX5_measure_112 : decode cX5_measure 112 = .ok (.iinc 1 1, 3) := by decide +kernel
theorem dX5_measure_115 : decode cX5_measure 115 = .ok (.goto (-33), 3) := by decide +kernel
theorem dX5_measure_118 : decode cX5_measure 118 = .ok (.return_, 1) := by decide +kernel
theorem dX5_extendOver_0 : decode cX5_extendOver 0 = .ok (.aload_n 0, 1) := by decide +kernel
theorem dX5_extendOver_1 : decode cX5_extendOver 1 = .ok (.getfield 17, 3) := by decide +kernel
theorem dX5_extendOver_4 : decode cX5_extendOver 4 = .ok (.iload_n 2, 1) := by decide +kernel
theorem dX5_extendOver_5 : decode cX5_extendOver 5 = .ok (.aaload, 1) := by decide +kernel
theorem dX5_extendOver_6 : decode cX5_extendOver 6 = .ok (.iload_n 1, 1) := by decide +kernel
theorem dX5_extendOver_7 : decode cX5_extendOver 7 = .ok (.iaload, 1) := by decide +kernel
theorem dX5_extendOver_8 : decode cX5_extendOver 8 = .ok (.istore_n 3, 1) := by decide +kernel
theorem dX5_extendOver_9 : decode cX5_extendOver 9 = .ok (.iload_n 3, 1) := by decide +kernel
theorem dX5_extendOver_10 : decode cX5_extendOver 10 = .ok (.ldc 34, 2) := by decide +kernel
theorem dX5_extendOver_12 : decode cX5_extendOver 12 = .ok (.if_icmp .lt 4, 3) := by decide +kernel
theorem dX5_extendOver_15 : decode cX5_extendOver 15 = .ok (.return_, 1) := by decide +kernel
theorem dX5_extendOver_16 : decode cX5_extendOver 16 = .ok (.iconst 0, 1) := by decide +kernel
theorem dX5_extendOver_17 : decode cX5_extendOver 17 = .ok (.istore 4, 2) := by decide +kernel
theorem dX5_extendOver_19 : decode cX5_extendOver 19 = .ok (.iload 4, 2) := by decide +kernel
theorem dX5_extendOver_21 : decode cX5_extendOver 21 = .ok (.aload_n 0, 1) := by decide +kernel
theorem dX5_extendOver_22 : decode cX5_extendOver 22 = .ok (.getfield 26, 3) := by decide +kernel
theorem dX5_extendOver_25 : decode cX5_extendOver 25 = .ok (.if_icmp .ge 41, 3) := by decide +kernel
theorem dX5_extendOver_28 : decode cX5_extendOver 28 = .ok (.aload_n 0, 1) := by decide +kernel
theorem dX5_extendOver_29 : decode cX5_extendOver 29 = .ok (.getfield 17, 3) := by decide +kernel
theorem dX5_extendOver_32 : decode cX5_extendOver 32 = .ok (.iload_n 2, 1) := by decide +kernel
theorem dX5_extendOver_33 : decode cX5_extendOver 33 = .ok (.aaload, 1) := by decide +kernel
theorem dX5_extendOver_34 : decode cX5_extendOver 34 = .ok (.iload 4, 2) := by decide +kernel
theorem dX5_extendOver_36 : decode cX5_extendOver 36 = .ok (.aload_n 0, 1) := by decide +kernel
theorem dX5_extendOver_37 : decode cX5_extendOver 37 = .ok (.getfield 17, 3) := by decide +kernel
theorem dX5_extendOver_40 : decode cX5_extendOver 40 = .ok (.iload_n 2, 1) := by decide +kernel
theorem dX5_extendOver_41 : decode cX5_extendOver 41 = .ok (.aaload, 1) := by decide +kernel
theorem dX5_extendOver_42 : decode cX5_extendOver 42 = .ok (.iload 4, 2) := by decide +kernel
theorem dX5_extendOver_44 : decode cX5_extendOver 44 = .ok (.iaload, 1) := by decide +kernel
theorem dX5_extendOver_45 : decode cX5_extendOver 45 = .ok (.iload_n 3, 1) := by decide +kernel
theorem dX5_extendOver_46 : decode cX5_extendOver 46 = .ok (.aload_n 0, 1) := by decide +kernel
theorem dX5_extendOver_47 : decode cX5_extendOver 47 = .ok (.getfield 17, 3) := by decide +kernel
theorem dX5_extendOver_50 : decode cX5_extendOver 50 = .ok (.iload_n 1, 1) := by decide +kernel
theorem dX5_extendOver_51 : decode cX5_extendOver 51 = .ok (.aaload, 1) := by decide +kernel
theorem dX5_extendOver_52 : decode cX5_extendOver 52 = .ok (.iload 4, 2) := by decide +kernel
theorem dX5_extendOver_54 : decode cX5_extendOver 54 = .ok (.iaload, 1) := by decide +kernel
theorem dX5_extendOver_55 : decode cX5_extendOver 55 = .ok (.iadd, 1) := by decide +kernel
theorem dX5_extendOver_56 : decode cX5_extendOver 56 = .ok (.invokestatic 39, 3) := by decide +kernel
theorem dX5_extendOver_59 : decode cX5_extendOver 59 = .ok (.iastore, 1) := by decide +kernel
theorem dX5_extendOver_60 : decode cX5_extendOver 60 = .ok (.iinc 4 1, 3) := by decide +kernel
theorem dX5_extendOver_63 : decode cX5_extendOver 63 = .ok (.goto (-44), 3) := by decide +kernel
theorem dX5_extendOver_66 : decode cX5_extendOver 66 = .ok (.return_, 1) := by decide +kernel
theorem dX5_between_0 : decode cX5_between 0 = .ok (.iload_n 1, 1) := by decide +kernel
theorem dX5_between_1 : decode cX5_between 1 = .ok (.ifCond .lt 23, 3) := by decide +kernel
theorem dX5_between_4 : decode cX5_between 4 = .ok (.iload_n 1, 1) := by decide +kernel
theorem dX5_between_5 : decode cX5_between 5 = .ok (.aload_n 0, 1) := by decide +kernel
theorem dX5_between_6 : decode cX5_between 6 = .ok (.getfield 26, 3) := by decide +kernel
theorem dX5_between_9 : decode cX5_between 9 = .ok (.if_icmp .ge 15, 3) := by decide +kernel
theorem dX5_between_12 : decode cX5_between 12 = .ok (.iload_n 2, 1) := by decide +kernel
theorem dX5_between_13 : decode cX5_between 13 = .ok (.ifCond .lt 11, 3) := by decide +kernel
theorem dX5_between_16 : decode cX5_between 16 = .ok (.iload_n 2, 1) := by decide +kernel
theorem dX5_between_17 : decode cX5_between 17 = .ok (.aload_n 0, 1) := by decide +kernel
theorem dX5_between_18 : decode cX5_between 18 = .ok (.getfield 26, 3) := by decide +kernel
theorem dX5_between_21 : decode cX5_between 21 = .ok (.if_icmp .lt 6, 3) := by decide +kernel
theorem dX5_between_24 : decode cX5_between 24 = .ok (.ldc 34, 2) := by decide +kernel
theorem dX5_between_26 : decode cX5_between 26 = .ok (.ireturn, 1) := by decide +kernel
theorem dX5_between_27 : decode cX5_between 27 = .ok (.aload_n 0, 1) := by decide +kernel
theorem dX5_between_28 : decode cX5_between 28 = .ok (.getfield 17, 3) := by decide +kernel
theorem dX5_between_31 : decode cX5_between 31 = .ok (.iload_n 1, 1) := by decide +kernel
theorem dX5_between_32 : decode cX5_between 32 = .ok (.aaload, 1) := by decide +kernel
theorem dX5_between_33 : decode cX5_between 33 = .ok (.iload_n 2, 1) := by decide +kernel
theorem dX5_between_34 : decode cX5_between 34 = .ok (.iaload, 1) := by decide +kernel
theorem dX5_between_35 : decode cX5_between 35 = .ok (.ireturn, 1) := by decide +kernel
theorem dX5_joined_0 : decode cX5_joined 0 = .ok (.aload_n 0, 1) := by decide +kernel
theorem dX5_joined_1 : decode cX5_joined 1 = .ok (.iload_n 1, 1) := by decide +kernel
theorem dX5_joined_2 : decode cX5_joined 2 = .ok (.iload_n 2, 1) := by decide +kernel
theorem dX5_joined_3 : decode cX5_joined 3 = .ok (.invokevirtual 44, 3) := by decide +kernel
theorem dX5_joined_6 : decode cX5_joined 6 = .ok (.ldc 34, 2) := by decide +kernel
theorem dX5_joined_8 : decode cX5_joined 8 = .ok (.if_icmp .ge 7, 3) := by decide +kernel
theorem dX5_joined_11 : decode cX5_joined 11 = .ok (.iconst 1, 1) := by decide +kernel
theorem dX5_joined_12 : decode cX5_joined 12 = .ok (.goto 4, 3) := by decide +kernel
theorem dX5_joined_15 : decode cX5_joined 15 = .ok (.iconst 0, 1) := by decide +kernel
theorem dX5_joined_16 : decode cX5_joined 16 = .ok (.ireturn, 1) := by decide +kernel
theorem dX5_edgeOf_0 : decode cX5_edgeOf 0 = .ok (.aload_n 0, 1) := by decide +kernel
theorem dX5_edgeOf_1 : decode cX5_edgeOf 1 = .ok (.getfield 9, 3) := by decide +kernel
theorem dX5_edgeOf_4 : decode cX5_edgeOf 4 = .ok (.iload_n 1, 1) := by decide +kernel
theorem dX5_edgeOf_5 : decode cX5_edgeOf 5 = .ok (.iload_n 2, 1) := by decide +kernel
theorem dX5_edgeOf_6 : decode cX5_edgeOf 6 = .ok (.invokevirtual 30, 3) := by decide +kernel
theorem dX5_edgeOf_9 : decode cX5_edgeOf 9 = .ok (.ireturn, 1) := by decide +kernel
theorem dX5_smallestJoined_0 : decode cX5_smallestJoined 0 = .ok (.iconst 0, 1) := by decide +kernel
theorem dX5_smallestJoined_1 : decode cX5_smallestJoined 1 = .ok (.istore_n 2, 1) := by decide +kernel
theorem dX5_smallestJoined_2 : decode cX5_smallestJoined 2 = .ok (.iload_n 2, 1) := by decide +kernel
theorem dX5_smallestJoined_3 : decode cX5_smallestJoined 3 = .ok (.iload_n 1, 1) := by decide +kernel
theorem dX5_smallestJoined_4 : decode cX5_smallestJoined 4 = .ok (.if_icmp .ge 20, 3) := by decide +kernel
theorem dX5_smallestJoined_7 : decode cX5_smallestJoined 7 = .ok (.aload_n 0, 1) := by decide +kernel
theorem dX5_smallestJoined_8 : decode cX5_smallestJoined 8 = .ok (.iload_n 2, 1) := by decide +kernel
theorem dX5_smallestJoined_9 : decode cX5_smallestJoined 9 = .ok (.iload_n 1, 1) := by decide +kernel
theorem dX5_smallestJoined_10 : decode cX5_smallestJoined 10 = .ok (.invokevirtual 47, 3) := by decide +kernel
theorem dX5_smallestJoined_13 : decode cX5_smallestJoined 13 = .ok (.ifCond .eq 5, 3) := by decide +kernel
theorem dX5_smallestJoined_16 : decode cX5_smallestJoined 16 = .ok (.iload_n 2, 1) := by decide +kernel
theorem dX5_smallestJoined_17 : decode cX5_smallestJoined 17 = .ok (.ireturn, 1) := by decide +kernel
theorem dX5_smallestJoined_18 : decode cX5_smallestJoined 18 = .ok (.iinc 2 1, 3) := by decide +kernel
theorem dX5_smallestJoined_21 : decode cX5_smallestJoined 21 = .ok (.goto (-19), 3) := by decide +kernel
theorem dX5_smallestJoined_24 : decode cX5_smallestJoined 24 = .ok (.iload_n 1, 1) := by decide +kernel
theorem dX5_smallestJoined_25 : decode cX5_smallestJoined 25 = .ok (.ireturn, 1) := by decide +kernel
theorem dX5_vertexOnPath_0 : decode cX5_vertexOnPath 0 = .ok (.aload_n 0, 1) := by decide +kernel
theorem dX5_vertexOnPath_1 : decode cX5_vertexOnPath 1 = .ok (.iload_n 1, 1) := by decide +kernel
theorem dX5_vertexOnPath_2 : decode cX5_vertexOnPath 2 = .ok (.iload_n 2, 1) := by decide +kernel
theorem dX5_vertexOnPath_3 : decode cX5_vertexOnPath 3 = .ok (.invokevirtual 47, 3) := by decide +kernel
theorem dX5_vertexOnPath_6 : decode cX5_vertexOnPath 6 = .ok (.ifCond .eq 9, 3) := by decide +kernel
theorem dX5_vertexOnPath_9 : decode cX5_vertexOnPath 9 = .ok (.iload_n 3, 1) := by decide +kernel
theorem dX5_vertexOnPath_10 : decode cX5_vertexOnPath 10 = .ok (.bipush 12, 2) := by decide +kernel
theorem dX5_vertexOnPath_12 : decode cX5_vertexOnPath 12 = .ok (.if_icmp .lt 6, 3) := by decide +kernel
theorem dX5_vertexOnPath_15 : decode cX5_vertexOnPath 15 = .ok (.bipush (-9), 2) := by decide +kernel
theorem dX5_vertexOnPath_17 : decode cX5_vertexOnPath 17 = .ok (.ireturn, 1) := by decide +kernel
theorem dX5_vertexOnPath_18 : decode cX5_vertexOnPath 18 = .ok (.iload_n 1, 1) := by decide +kernel
theorem dX5_vertexOnPath_19 : decode cX5_vertexOnPath 19 = .ok (.istore 4, 2) := by decide +kernel
theorem dX5_vertexOnPath_21 : decode cX5_vertexOnPath 21 = .ok (.iconst 0, 1) := by decide +kernel
theorem dX5_vertexOnPath_22 : decode cX5_vertexOnPath 22 = .ok (.istore 5, 2) := by decide +kernel
theorem dX5_vertexOnPath_24 : decode cX5_vertexOnPath 24 = .ok (.iload 5, 2) := by decide +kernel
theorem dX5_vertexOnPath_26 : decode cX5_vertexOnPath 26 = .ok (.iload_n 3, 1) := by decide +kernel
theorem dX5_vertexOnPath_27 : decode cX5_vertexOnPath 27 = .ok (.if_icmp .ge 27, 3) := by decide +kernel
theorem dX5_vertexOnPath_30 : decode cX5_vertexOnPath 30 = .ok (.iload 4, 2) := by decide +kernel
theorem dX5_vertexOnPath_32 : decode cX5_vertexOnPath 32 = .ok (.iload_n 2, 1) := by decide +kernel
theorem dX5_vertexOnPath_33 : decode cX5_vertexOnPath 33 = .ok (.if_icmp .ne 6, 3) := by decide +kernel
theorem dX5_vertexOnPath_36 : decode cX5_vertexOnPath 36 = .ok (.bipush (-9), 2) := by decide +kernel
theorem dX5_vertexOnPath_38 : decode cX5_vertexOnPath 38 = .ok (.ireturn, 1) := by decide +kernel
theorem dX5_vertexOnPath_39 : decode cX5_vertexOnPath 39 = .ok (.aload_n 0, 1) := by decide +kernel
theorem dX5_vertexOnPath_40 : decode cX5_vertexOnPath 40 = .ok (.iload 4, 2) := by decide +kernel
theorem dX5_vertexOnPath_42 : decode cX5_vertexOnPath 42 = .ok (.iload_n 2, 1) := by decide +kernel
theorem dX5_vertexOnPath_43 : decode cX5_vertexOnPath 43 = .ok (.invokevirtual 51, 3) := by decide +kernel
theorem dX5_vertexOnPath_46 : decode cX5_vertexOnPath 46 = .ok (.istore 4, 2) := by decide +kernel
theorem dX5_vertexOnPath_48 : decode cX5_vertexOnPath 48 = .ok (.iinc 5 1, 3) := by decide +kernel
theorem dX5_vertexOnPath_51 : decode cX5_vertexOnPath 51 = .ok (.goto (-27), 3) := by decide +kernel
theorem dX5_vertexOnPath_54 : decode cX5_vertexOnPath 54 = .ok (.iload 4, 2) := by decide +kernel
theorem dX5_vertexOnPath_56 : decode cX5_vertexOnPath 56 = .ok (.ireturn, 1) := by decide +kernel
theorem dX5_stepToward_0 : decode cX5_stepToward 0 = .ok (.iconst 0, 1) := by decide +kernel
theorem dX5_stepToward_1 : decode cX5_stepToward 1 = .ok (.istore_n 3, 1) := by decide +kernel
theorem dX5_stepToward_2 : decode cX5_stepToward 2 = .ok (.iload_n 3, 1) := by decide +kernel
theorem dX5_stepToward_3 : decode cX5_stepToward 3 = .ok (.aload_n 0, 1) := by decide +kernel
theorem dX5_stepToward_4 : decode cX5_stepToward 4 = .ok (.getfield 26, 3) := by decide +kernel
theorem dX5_stepToward_7 : decode cX5_stepToward 7 = .ok (.if_icmp .ge 38, 3) := by decide +kernel
theorem dX5_stepToward_10 : decode cX5_stepToward 10 = .ok (.aload_n 0, 1) := by decide +kernel
theorem dX5_stepToward_11 : decode cX5_stepToward 11 = .ok (.getfield 9, 3) := by decide +kernel
theorem dX5_stepToward_14 : decode cX5_stepToward 14 = .ok (.iload_n 1, 1) := by decide +kernel
theorem dX5_stepToward_15 : decode cX5_stepToward 15 = .ok (.iload_n 3, 1) := by decide +kernel
theorem dX5_stepToward_16 : decode cX5_stepToward 16 = .ok (.invokevirtual 54, 3) := by decide +kernel
theorem dX5_stepToward_19 : decode cX5_stepToward 19 = .ok (.ifCond .eq 20, 3) := by decide +kernel
theorem dX5_stepToward_22 : decode cX5_stepToward 22 = .ok (.aload_n 0, 1) := by decide +kernel
theorem dX5_stepToward_23 : decode cX5_stepToward 23 = .ok (.iload_n 3, 1) := by decide +kernel
theorem dX5_stepToward_24 : decode cX5_stepToward 24 = .ok (.iload_n 2, 1) := by decide +kernel
theorem dX5_stepToward_25 : decode cX5_stepToward 25 = .ok (.invokevirtual 44, 3) := by decide +kernel
theorem dX5_stepToward_28 : decode cX5_stepToward 28 = .ok (.aload_n 0, 1) := by decide +kernel
theorem dX5_stepToward_29 : decode cX5_stepToward 29 = .ok (.iload_n 1, 1) := by decide +kernel
theorem dX5_stepToward_30 : decode cX5_stepToward 30 = .ok (.iload_n 2, 1) := by decide +kernel
theorem dX5_stepToward_31 : decode cX5_stepToward 31 = .ok (.invokevirtual 44, 3) := by decide +kernel
theorem dX5_stepToward_34 : decode cX5_stepToward 34 = .ok (.if_icmp .ge 5, 3) := by decide +kernel
theorem dX5_stepToward_37 : decode cX5_stepToward 37 = .ok (.iload_n 3, 1) := by decide +kernel
theorem dX5_stepToward_38 : decode cX5_stepToward 38 = .ok (.ireturn, 1) := by decide +kernel
theorem dX5_stepToward_39 : decode cX5_stepToward 39 = .ok (.iinc 3 1, 3) := by decide +kernel
theorem dX5_stepToward_42 : decode cX5_stepToward 42 = .ok (.goto (-40), 3) := by decide +kernel
theorem dX5_stepToward_45 : decode cX5_stepToward 45 = .ok (.iload_n 2, 1) := by decide +kernel
theorem dX5_stepToward_46 : decode cX5_stepToward 46 = .ok (.ireturn, 1) := by decide +kernel
theorem dX5_greatestFrom_0 : decode cX5_greatestFrom 0 = .ok (.aload_n 0, 1) := by decide +kernel
theorem dX5_greatestFrom_1 : decode cX5_greatestFrom 1 = .ok (.iload_n 1, 1) := by decide +kernel
theorem dX5_greatestFrom_2 : decode cX5_greatestFrom 2 = .ok (.aload_n 0, 1) := by decide +kernel
theorem dX5_greatestFrom_3 : decode cX5_greatestFrom 3 = .ok (.iload_n 1, 1) := by decide +kernel
theorem dX5_greatestFrom_4 : decode cX5_greatestFrom 4 = .ok (.invokevirtual 57, 3) := by decide +kernel
theorem dX5_greatestFrom_7 : decode cX5_greatestFrom 7 = .ok (.invokevirtual 44, 3) := by decide +kernel
theorem dX5_greatestFrom_10 : decode cX5_greatestFrom 10 = .ok (.ireturn, 1) := by decide +kernel
theorem dX5_firstFarthest_0 : decode cX5_firstFarthest 0 = .ok (.iload_n 1, 1) := by decide +kernel
theorem dX5_firstFarthest_1 : decode cX5_firstFarthest 1 = .ok (.istore_n 2, 1) := by decide +kernel
theorem dX5_firstFarthest_2 : decode cX5_firstFarthest 2 = .ok (.iconst (-1), 1) := by decide +kernel
theorem dX5_firstFarthest_3 : decode cX5_firstFarthest 3 = .ok (.istore_n 3, 1) := by decide +kernel
theorem dX5_firstFarthest_4 : decode cX5_firstFarthest 4 = .ok (.iconst 0, 1) := by decide +kernel
theorem dX5_firstFarthest_5 : decode cX5_firstFarthest 5 = .ok (.istore 4, 2) := by decide +kernel
theorem dX5_firstFarthest_7 : decode cX5_firstFarthest 7 = .ok (.iload 4, 2) := by decide +kernel
theorem dX5_firstFarthest_9 : decode cX5_firstFarthest 9 = .ok (.aload_n 0, 1) := by decide +kernel
theorem dX5_firstFarthest_10 : decode cX5_firstFarthest 10 = .ok (.getfield 26, 3) := by decide +kernel
theorem dX5_firstFarthest_13 : decode cX5_firstFarthest 13 = .ok (.if_icmp .ge 37, 3) := by decide +kernel
theorem dX5_firstFarthest_16 : decode cX5_firstFarthest 16 = .ok (.aload_n 0, 1) := by decide +kernel
theorem dX5_firstFarthest_17 : decode cX5_firstFarthest 17 = .ok (.iload 4, 2) := by decide +kernel
theorem dX5_firstFarthest_19 : decode cX5_firstFarthest 19 = .ok (.iload_n 1, 1) := by decide +kernel
theorem dX5_firstFarthest_20 : decode cX5_firstFarthest 20 = .ok (.invokevirtual 44, 3) := by decide +kernel
theorem dX5_firstFarthest_23 : decode cX5_firstFarthest 23 = .ok (.istore 5, 2) := by decide +kernel
theorem dX5_firstFarthest_25 : decode cX5_firstFarthest 25 = .ok (.iload 5, 2) := by decide +kernel
theorem dX5_firstFarthest_27 : decode cX5_firstFarthest 27 = .ok (.ldc 34, 2) := by decide +kernel
theorem dX5_firstFarthest_29 : decode cX5_firstFarthest 29 = .ok (.if_icmp .ge 15, 3) := by decide +kernel
theorem dX5_firstFarthest_32 : decode cX5_firstFarthest 32 = .ok (.iload 5, 2) := by decide +kernel
theorem dX5_firstFarthest_34 : decode cX5_firstFarthest 34 = .ok (.iload_n 3, 1) := by decide +kernel
theorem dX5_firstFarthest_35 : decode cX5_firstFarthest 35 = .ok (.if_icmp .le 9, 3) := by decide +kernel
theorem dX5_firstFarthest_38 : decode cX5_firstFarthest 38 = .ok (.iload 4, 2) := by decide +kernel
theorem dX5_firstFarthest_40 : decode cX5_firstFarthest 40 = .ok (.istore_n 2, 1) := by decide +kernel
theorem dX5_firstFarthest_41 : decode cX5_firstFarthest 41 = .ok (.iload 5, 2) := by decide +kernel
theorem dX5_firstFarthest_43 : decode cX5_firstFarthest 43 = .ok (.istore_n 3, 1) := by decide +kernel
theorem dX5_firstFarthest_44 : decode cX5_firstFarthest 44 = .ok (.iinc 4 1, 3) := by decide +kernel
theorem dX5_firstFarthest_47 : decode cX5_firstFarthest 47 = .ok (.goto (-40), 3) := by decide +kernel
theorem dX5_firstFarthest_50 : decode cX5_firstFarthest 50 = .ok (.iload_n 2, 1) := by decide +kernel
theorem dX5_firstFarthest_51 : decode cX5_firstFarthest 51 = .ok (.ireturn, 1) := by decide +kernel
theorem dX5_widthAround_0 : decode cX5_widthAround 0 = .ok (.aload_n 0, 1) := by decide +kernel
theorem dX5_widthAround_1 : decode cX5_widthAround 1 = .ok (.aload_n 0, 1) := by decide +kernel
theorem dX5_widthAround_2 : decode cX5_widthAround 2 = .ok (.iload_n 1, 1) := by decide +kernel
theorem dX5_widthAround_3 : decode cX5_widthAround 3 = .ok (.invokevirtual 61, 3) := by decide +kernel
theorem dX5_widthAround_6 : decode cX5_widthAround 6 = .ok (.invokevirtual 64, 3) := by decide +kernel
theorem dX5_widthAround_9 : decode cX5_widthAround 9 = .ok (.ireturn, 1) := by decide +kernel
theorem dX5_firstWideEnd_0 : decode cX5_firstWideEnd 0 = .ok (.iload_n 1, 1) := by decide +kernel
theorem dX5_firstWideEnd_1 : decode cX5_firstWideEnd 1 = .ok (.istore_n 2, 1) := by decide +kernel
theorem dX5_firstWideEnd_2 : decode cX5_firstWideEnd 2 = .ok (.iconst (-1), 1) := by decide +kernel
theorem dX5_firstWideEnd_3 : decode cX5_firstWideEnd 3 = .ok (.istore_n 3, 1) := by decide +kernel
theorem dX5_firstWideEnd_4 : decode cX5_firstWideEnd 4 = .ok (.iconst 0, 1) := by decide +kernel
theorem dX5_firstWideEnd_5 : decode cX5_firstWideEnd 5 = .ok (.istore 4, 2) := by decide +kernel
theorem dX5_firstWideEnd_7 : decode cX5_firstWideEnd 7 = .ok (.iload 4, 2) := by decide +kernel
theorem dX5_firstWideEnd_9 : decode cX5_firstWideEnd 9 = .ok (.aload_n 0, 1) := by decide +kernel
theorem dX5_firstWideEnd_10 : decode cX5_firstWideEnd 10 = .ok (.getfield 26, 3) := by decide +kernel
theorem dX5_firstWideEnd_13 : decode cX5_firstWideEnd 13 = .ok (.if_icmp .ge 39, 3) := by decide +kernel
theorem dX5_firstWideEnd_16 : decode cX5_firstWideEnd 16 = .ok (.aload_n 0, 1) := by decide +kernel
theorem dX5_firstWideEnd_17 : decode cX5_firstWideEnd 17 = .ok (.iload 4, 2) := by decide +kernel
theorem dX5_firstWideEnd_19 : decode cX5_firstWideEnd 19 = .ok (.iload_n 1, 1) := by decide +kernel
theorem dX5_firstWideEnd_20 : decode cX5_firstWideEnd 20 = .ok (.invokevirtual 47, 3) := by decide +kernel
theorem dX5_firstWideEnd_23 : decode cX5_firstWideEnd 23 = .ok (.ifCond .eq 23, 3) := by decide +kernel
theorem dX5_firstWideEnd_26 : decode cX5_firstWideEnd 26 = .ok (.aload_n 0, 1) := by decide +kernel
theorem dX5_firstWideEnd_27 : decode cX5_firstWideEnd 27 = .ok (.iload 4, 2) := by decide +kernel
theorem dX5_firstWideEnd_29 : decode cX5_firstWideEnd 29 = .ok (.invokevirtual 64, 3) := by decide +kernel
theorem dX5_firstWideEnd_32 : decode cX5_firstWideEnd 32 = .ok (.iload_n 3, 1) := by decide +kernel
theorem dX5_firstWideEnd_33 : decode cX5_firstWideEnd 33 = .ok (.if_icmp .le 13, 3) := by decide +kernel
theorem dX5_firstWideEnd_36 : decode cX5_firstWideEnd 36 = .ok (.iload 4, 2) := by decide +kernel
theorem dX5_firstWideEnd_38 : decode cX5_firstWideEnd 38 = .ok (.istore_n 2, 1) := by decide +kernel
theorem dX5_firstWideEnd_39 : decode cX5_firstWideEnd 39 = .ok (.aload_n 0, 1) := by decide +kernel
theorem dX5_firstWideEnd_40 : decode cX5_firstWideEnd 40 = .ok (.iload 4, 2) := by decide +kernel
theorem dX5_firstWideEnd_42 : decode cX5_firstWideEnd 42 = .ok (.invokevirtual 64, 3) := by decide +kernel
theorem dX5_firstWideEnd_45 : decode cX5_firstWideEnd 45 = .ok (.istore_n 3, 1) := by decide +kernel
theorem dX5_firstWideEnd_46 : decode cX5_firstWideEnd 46 = .ok (.iinc 4 1, 3) := by decide +kernel
theorem dX5_firstWideEnd_49 : decode cX5_firstWideEnd 49 = .ok (.goto (-42), 3) := by decide +kernel
theorem dX5_firstWideEnd_52 : decode cX5_firstWideEnd 52 = .ok (.iload_n 2, 1) := by decide +kernel
theorem dX5_firstWideEnd_53 : decode cX5_firstWideEnd 53 = .ok (.ireturn, 1) := by decide +kernel
theorem dX5_middleOf_0 : decode cX5_middleOf 0 = .ok (.iload_n 1, 1) := by decide +kernel
theorem dX5_middleOf_1 : decode cX5_middleOf 1 = .ok (.istore_n 2, 1) := by decide +kernel
theorem dX5_middleOf_2 : decode cX5_middleOf 2 = .ok (.ldc 67, 2) := by decide +kernel
theorem dX5_middleOf_4 : decode cX5_middleOf 4 = .ok (.istore_n 3, 1) := by decide +kernel
theorem dX5_middleOf_5 : decode cX5_middleOf 5 = .ok (.iconst 0, 1) := by decide +kernel
theorem dX5_middleOf_6 : decode cX5_middleOf 6 = .ok (.istore 4, 2) := by decide +kernel
theorem dX5_middleOf_8 : decode cX5_middleOf 8 = .ok (.iload 4, 2) := by decide +kernel
theorem dX5_middleOf_10 : decode cX5_middleOf 10 = .ok (.aload_n 0, 1) := by decide +kernel
theorem dX5_middleOf_11 : decode cX5_middleOf 11 = .ok (.getfield 26, 3) := by decide +kernel
theorem dX5_middleOf_14 : decode cX5_middleOf 14 = .ok (.if_icmp .ge 39, 3) := by decide +kernel
theorem dX5_middleOf_17 : decode cX5_middleOf 17 = .ok (.aload_n 0, 1) := by decide +kernel
theorem dX5_middleOf_18 : decode cX5_middleOf 18 = .ok (.iload 4, 2) := by decide +kernel
theorem dX5_middleOf_20 : decode cX5_middleOf 20 = .ok (.iload_n 1, 1) := by decide +kernel
theorem dX5_middleOf_21 : decode cX5_middleOf 21 = .ok (.invokevirtual 47, 3) := by decide +kernel
theorem dX5_middleOf_24 : decode cX5_middleOf 24 = .ok (.ifCond .eq 23, 3) := by decide +kernel
theorem dX5_middleOf_27 : decode cX5_middleOf 27 = .ok (.aload_n 0, 1) := by decide +kernel
theorem dX5_middleOf_28 : decode cX5_middleOf 28 = .ok (.iload 4, 2) := by decide +kernel
theorem dX5_middleOf_30 : decode cX5_middleOf 30 = .ok (.invokevirtual 64, 3) := by decide +kernel
theorem dX5_middleOf_33 : decode cX5_middleOf 33 = .ok (.iload_n 3, 1) := by decide +kernel
theorem dX5_middleOf_34 : decode cX5_middleOf 34 = .ok (.if_icmp .ge 13, 3) := by decide +kernel
theorem dX5_middleOf_37 : decode cX5_middleOf 37 = .ok (.iload 4, 2) := by decide +kernel
theorem dX5_middleOf_39 : decode cX5_middleOf 39 = .ok (.istore_n 2, 1) := by decide +kernel
theorem dX5_middleOf_40 : decode cX5_middleOf 40 = .ok (.aload_n 0, 1) := by decide +kernel
theorem dX5_middleOf_41 : decode cX5_middleOf 41 = .ok (.iload 4, 2) := by decide +kernel
theorem dX5_middleOf_43 : decode cX5_middleOf 43 = .ok (.invokevirtual 64, 3) := by decide +kernel
theorem dX5_middleOf_46 : decode cX5_middleOf 46 = .ok (.istore_n 3, 1) := by decide +kernel
theorem dX5_middleOf_47 : decode cX5_middleOf 47 = .ok (.iinc 4 1, 3) := by decide +kernel
theorem dX5_middleOf_50 : decode cX5_middleOf 50 = .ok (.goto (-42), 3) := by decide +kernel
theorem dX5_middleOf_53 : decode cX5_middleOf 53 = .ok (.iload_n 2, 1) := by decide +kernel
theorem dX5_middleOf_54 : decode cX5_middleOf 54 = .ok (.ireturn, 1) := by decide +kernel
theorem dX5_priceOf_0 : decode cX5_priceOf 0 = .ok (.iconst 0, 1) := by decide +kernel
theorem dX5_priceOf_1 : decode cX5_priceOf 1 = .ok (.istore_n 2, 1) := by decide +kernel
theorem dX5_priceOf_2 : decode cX5_priceOf 2 = .ok (.iconst 0, 1) := by decide +kernel
theorem dX5_priceOf_3 : decode cX5_priceOf 3 = .ok (.istore_n 3, 1) := by decide +kernel
theorem dX5_priceOf_4 : decode cX5_priceOf 4 = .ok (.iload_n 3, 1) := by decide +kernel
theorem dX5_priceOf_5 : decode cX5_priceOf 5 = .ok (.aload_n 0, 1) := by decide +kernel
theorem dX5_priceOf_6 : decode cX5_priceOf 6 = .ok (.getfield 26, 3) := by decide +kernel
theorem dX5_priceOf_9 : decode cX5_priceOf 9 = .ok (.if_icmp .ge 36, 3) := by decide +kernel
theorem dX5_priceOf_12 : decode cX5_priceOf 12 = .ok (.aload_n 0, 1) := by decide +kernel
theorem dX5_priceOf_13 : decode cX5_priceOf 13 = .ok (.iload_n 3, 1) := by decide +kernel
theorem dX5_priceOf_14 : decode cX5_priceOf 14 = .ok (.iload_n 1, 1) := by decide +kernel
theorem dX5_priceOf_15 : decode cX5_priceOf 15 = .ok (.invokevirtual 47, 3) := by decide +kernel
theorem dX5_priceOf_18 : decode cX5_priceOf 18 = .ok (.ifCond .eq 21, 3) := by decide +kernel
theorem dX5_priceOf_21 : decode cX5_priceOf 21 = .ok (.iload_n 2, 1) := by decide +kernel
theorem dX5_priceOf_22 : decode cX5_priceOf 22 = .ok (.aload_n 0, 1) := by decide +kernel
theorem dX5_priceOf_23 : decode cX5_priceOf 23 = .ok (.getfield 9, 3) := by decide +kernel
theorem dX5_priceOf_26 : decode cX5_priceOf 26 = .ok (.iload_n 3, 1) := by decide +kernel
theorem dX5_priceOf_27 : decode cX5_priceOf 27 = .ok (.invokevirtual 68, 3) := by decide +kernel
theorem dX5_priceOf_30 : decode cX5_priceOf 30 = .ok (.aload_n 0, 1) := by decide +kernel
theorem dX5_priceOf_31 : decode cX5_priceOf 31 = .ok (.iload_n 3, 1) := by decide +kernel
theorem dX5_priceOf_32 : decode cX5_priceOf 32 = .ok (.iload_n 1, 1) := by decide +kernel
theorem dX5_priceOf_33 : decode cX5_priceOf 33 = .ok (.invokevirtual 44, 3) := by decide +kernel
theorem dX5_priceOf_36 : decode cX5_priceOf 36 = .ok (.imul, 1) := by decide +kernel
theorem dX5_priceOf_37 : decode cX5_priceOf 37 = .ok (.iadd, 1) := by decide +kernel
theorem dX5_priceOf_38 : decode cX5_priceOf 38 = .ok (.istore_n 2, 1) := by decide +kernel
theorem dX5_priceOf_39 : decode cX5_priceOf 39 = .ok (.iinc 3 1, 3) := by decide +kernel
theorem dX5_priceOf_42 : decode cX5_priceOf 42 = .ok (.goto (-38), 3) := by decide +kernel
theorem dX5_priceOf_45 : decode cX5_priceOf 45 = .ok (.iload_n 2, 1) := by decide +kernel
theorem dX5_priceOf_46 : decode cX5_priceOf 46 = .ok (.ireturn, 1) := by decide +kernel
theorem dX5_cheapestOf_0 : decode cX5_cheapestOf 0 = .ok (.iload_n 1, 1) := by decide +kernel
theorem dX5_cheapestOf_1 : decode cX5_cheapestOf 1 = .ok (.istore_n 2, 1) := by decide +kernel
theorem dX5_cheapestOf_2 : decode cX5_cheapestOf 2 = .ok (.ldc 67, 2) := by decide +kernel
theorem dX5_cheapestOf_4 : decode cX5_cheapestOf 4 = .ok (.istore_n 3, 1) := by decide +kernel
theorem dX5_cheapestOf_5 : decode cX5_cheapestOf 5 = .ok (.iconst 0, 1) := by decide +kernel
theorem dX5_cheapestOf_6 : decode cX5_cheapestOf 6 = .ok (.istore 4, 2) := by decide +kernel
theorem dX5_cheapestOf_8 : decode cX5_cheapestOf 8 = .ok (.iload 4, 2) := by decide +kernel
theorem dX5_cheapestOf_10 : decode cX5_cheapestOf 10 = .ok (.aload_n 0, 1) := by decide +kernel
theorem dX5_cheapestOf_11 : decode cX5_cheapestOf 11 = .ok (.getfield 26, 3) := by decide +kernel
theorem dX5_cheapestOf_14 : decode cX5_cheapestOf 14 = .ok (.if_icmp .ge 39, 3) := by decide +kernel
theorem dX5_cheapestOf_17 : decode cX5_cheapestOf 17 = .ok (.aload_n 0, 1) := by decide +kernel
theorem dX5_cheapestOf_18 : decode cX5_cheapestOf 18 = .ok (.iload 4, 2) := by decide +kernel
theorem dX5_cheapestOf_20 : decode cX5_cheapestOf 20 = .ok (.iload_n 1, 1) := by decide +kernel
theorem dX5_cheapestOf_21 : decode cX5_cheapestOf 21 = .ok (.invokevirtual 47, 3) := by decide +kernel
theorem dX5_cheapestOf_24 : decode cX5_cheapestOf 24 = .ok (.ifCond .eq 23, 3) := by decide +kernel
theorem dX5_cheapestOf_27 : decode cX5_cheapestOf 27 = .ok (.aload_n 0, 1) := by decide +kernel
theorem dX5_cheapestOf_28 : decode cX5_cheapestOf 28 = .ok (.iload 4, 2) := by decide +kernel
theorem dX5_cheapestOf_30 : decode cX5_cheapestOf 30 = .ok (.invokevirtual 71, 3) := by decide +kernel
theorem dX5_cheapestOf_33 : decode cX5_cheapestOf 33 = .ok (.iload_n 3, 1) := by decide +kernel
theorem dX5_cheapestOf_34 : decode cX5_cheapestOf 34 = .ok (.if_icmp .ge 13, 3) := by decide +kernel
theorem dX5_cheapestOf_37 : decode cX5_cheapestOf 37 = .ok (.iload 4, 2) := by decide +kernel
theorem dX5_cheapestOf_39 : decode cX5_cheapestOf 39 = .ok (.istore_n 2, 1) := by decide +kernel
theorem dX5_cheapestOf_40 : decode cX5_cheapestOf 40 = .ok (.aload_n 0, 1) := by decide +kernel
theorem dX5_cheapestOf_41 : decode cX5_cheapestOf 41 = .ok (.iload 4, 2) := by decide +kernel
theorem dX5_cheapestOf_43 : decode cX5_cheapestOf 43 = .ok (.invokevirtual 71, 3) := by decide +kernel
theorem dX5_cheapestOf_46 : decode cX5_cheapestOf 46 = .ok (.istore_n 3, 1) := by decide +kernel
theorem dX5_cheapestOf_47 : decode cX5_cheapestOf 47 = .ok (.iinc 4 1, 3) := by decide +kernel
theorem dX5_cheapestOf_50 : decode cX5_cheapestOf 50 = .ok (.goto (-42), 3) := by decide +kernel
theorem dX5_cheapestOf_53 : decode cX5_cheapestOf 53 = .ok (.iload_n 2, 1) := by decide +kernel
theorem dX5_cheapestOf_54 : decode cX5_cheapestOf 54 = .ok (.ireturn, 1) := by decide +kernel
theorem dX5_meetingOf_0 : decode cX5_meetingOf 0 = .ok (.aload_n 0, 1) := by decide +kernel
theorem dX5_meetingOf_1 : decode cX5_meetingOf 1 = .ok (.iload_n 1, 1) := by decide +kernel
theorem dX5_meetingOf_2 : decode cX5_meetingOf 2 = .ok (.iload_n 2, 1) := by decide +kernel
theorem dX5_meetingOf_3 : decode cX5_meetingOf 3 = .ok (.invokevirtual 47, 3) := by decide +kernel
theorem dX5_meetingOf_6 : decode cX5_meetingOf 6 = .ok (.ifCond .eq 12, 3) := by decide +kernel
theorem dX5_meetingOf_9 : decode cX5_meetingOf 9 = .ok (.aload_n 0, 1) := by decide +kernel
theorem dX5_meetingOf_10 : decode cX5_meetingOf 10 = .ok (.iload_n 1, 1) := by decide +kernel
theorem dX5_meetingOf_11 : decode cX5_meetingOf 11 = .ok (.iload_n 3, 1) := by decide +kernel
theorem dX5_meetingOf_12 : decode cX5_meetingOf 12 = .ok (.invokevirtual 47, 3) := by decide +kernel
theorem dX5_meetingOf_15 : decode cX5_meetingOf 15 = .ok (.ifCond .ne 6, 3) := by decide +kernel
theorem dX5_meetingOf_18 : decode cX5_meetingOf 18 = .ok (.bipush (-9), 2) := by decide +kernel
theorem dX5_meetingOf_20 : decode cX5_meetingOf 20 = .ok (.ireturn, 1) := by decide +kernel
theorem dX5_meetingOf_21 : decode cX5_meetingOf 21 = .ok (.iconst 0, 1) := by decide +kernel
theorem dX5_meetingOf_22 : decode cX5_meetingOf 22 = .ok (.istore 4, 2) := by decide +kernel
theorem dX5_meetingOf_24 : decode cX5_meetingOf 24 = .ok (.iload 4, 2) := by decide +kernel
theorem dX5_meetingOf_26 : decode cX5_meetingOf 26 = .ok (.aload_n 0, 1) := by decide +kernel
theorem dX5_meetingOf_27 : decode cX5_meetingOf 27 = .ok (.getfield 26, 3) := by decide +kernel
theorem dX5_meetingOf_30 : decode cX5_meetingOf 30 = .ok (.if_icmp .ge 45, 3) := by decide +kernel
theorem dX5_meetingOf_33 : decode cX5_meetingOf 33 = .ok (.aload_n 0, 1) := by decide +kernel
theorem dX5_meetingOf_34 : decode cX5_meetingOf 34 = .ok (.iload 4, 2) := by decide +kernel
theorem dX5_meetingOf_36 : decode cX5_meetingOf 36 = .ok (.iload_n 1, 1) := by decide +kernel
theorem dX5_meetingOf_37 : decode cX5_meetingOf 37 = .ok (.iload_n 2, 1) := by decide +kernel
theorem dX5_meetingOf_38 : decode cX5_meetingOf 38 = .ok (.invokevirtual 74, 3) := by decide +kernel
theorem dX5_meetingOf_41 : decode cX5_meetingOf 41 = .ok (.ifCond .eq 28, 3) := by decide +kernel
theorem dX5_meetingOf_44 : decode cX5_meetingOf 44 = .ok (.aload_n 0, 1) := by decide +kernel
theorem dX5_meetingOf_45 : decode cX5_meetingOf 45 = .ok (.iload 4, 2) := by decide +kernel
theorem dX5_meetingOf_47 : decode cX5_meetingOf 47 = .ok (.iload_n 2, 1) := by decide +kernel
theorem dX5_meetingOf_48 : decode cX5_meetingOf 48 = .ok (.iload_n 3, 1) := by decide +kernel
theorem dX5_meetingOf_49 : decode cX5_meetingOf 49 = .ok (.invokevirtual 74, 3) := by decide +kernel
theorem dX5_meetingOf_52 : decode cX5_meetingOf 52 = .ok (.ifCond .eq 17, 3) := by decide +kernel
theorem dX5_meetingOf_55 : decode cX5_meetingOf 55 = .ok (.aload_n 0, 1) := by decide +kernel
theorem dX5_meetingOf_56 : decode cX5_meetingOf 56 = .ok (.iload 4, 2) := by decide +kernel
theorem dX5_meetingOf_58 : decode cX5_meetingOf 58 = .ok (.iload_n 1, 1) := by decide +kernel
theorem dX5_meetingOf_59 : decode cX5_meetingOf 59 = .ok (.iload_n 3, 1) := by decide +kernel
theorem dX5_meetingOf_60 : decode cX5_meetingOf 60 = .ok (.invokevirtual 74, 3) := by decide +kernel
theorem dX5_meetingOf_63 : decode cX5_meetingOf 63 = .ok (.ifCond .eq 6, 3) := by decide +kernel
theorem dX5_meetingOf_66 : decode cX5_meetingOf 66 = .ok (.iload 4, 2) := by decide +kernel
theorem dX5_meetingOf_68 : decode cX5_meetingOf 68 = .ok (.ireturn, 1) := by decide +kernel
theorem dX5_meetingOf_69 : decode cX5_meetingOf 69 = .ok (.iinc 4 1, 3) := by decide +kernel
theorem dX5_meetingOf_72 : decode cX5_meetingOf 72 = .ok (.goto (-48), 3) := by decide +kernel
theorem dX5_meetingOf_75 : decode cX5_meetingOf 75 = .ok (.bipush (-9), 2) := by decide +kernel
theorem dX5_meetingOf_77 : decode cX5_meetingOf 77 = .ok (.ireturn, 1) := by decide +kernel
theorem dX5_onPath_0 : decode cX5_onPath 0 = .ok (.aload_n 0, 1) := by decide +kernel
theorem dX5_onPath_1 : decode cX5_onPath 1 = .ok (.iload_n 2, 1) := by decide +kernel
theorem dX5_onPath_2 : decode cX5_onPath 2 = .ok (.iload_n 1, 1) := by decide +kernel
theorem dX5_onPath_3 : decode cX5_onPath 3 = .ok (.invokevirtual 44, 3) := by decide +kernel
theorem dX5_onPath_6 : decode cX5_onPath 6 = .ok (.aload_n 0, 1) := by decide +kernel
theorem dX5_onPath_7 : decode cX5_onPath 7 = .ok (.iload_n 1, 1) := by decide +kernel
theorem dX5_onPath_8 : decode cX5_onPath 8 = .ok (.iload_n 3, 1) := by decide +kernel
theorem dX5_onPath_9 : decode cX5_onPath 9 = .ok (.invokevirtual 44, 3) := by decide +kernel
theorem dX5_onPath_12 : decode cX5_onPath 12 = .ok (.iadd, 1) := by decide +kernel
theorem dX5_onPath_13 : decode cX5_onPath 13 = .ok (.aload_n 0, 1) := by decide +kernel
theorem dX5_onPath_14 : decode cX5_onPath 14 = .ok (.iload_n 2, 1) := by decide +kernel
theorem dX5_onPath_15 : decode cX5_onPath 15 = .ok (.iload_n 3, 1) := by decide +kernel
theorem dX5_onPath_16 : decode cX5_onPath 16 = .ok (.invokevirtual 44, 3) := by decide +kernel
theorem dX5_onPath_19 : decode cX5_onPath 19 = .ok (.if_icmp .ne 7, 3) := by decide +kernel
theorem dX5_onPath_22 : decode cX5_onPath 22 = .ok (.iconst 1, 1) := by decide +kernel
theorem dX5_onPath_23 : decode cX5_onPath 23 = .ok (.goto 4, 3) := by decide +kernel
theorem dX5_onPath_26 : decode cX5_onPath 26 = .ok (.iconst 0, 1) := by decide +kernel
theorem dX5_onPath_27 : decode cX5_onPath 27 = .ok (.ireturn, 1) := by decide +kernel
theorem dX5_goesOver_0 : decode cX5_goesOver 0 = .ok (.aload_n 0, 1) := by decide +kernel
theorem dX5_goesOver_1 : decode cX5_goesOver 1 = .ok (.getfield 9, 3) := by decide +kernel
theorem dX5_goesOver_4 : decode cX5_goesOver 4 = .ok (.iload_n 3, 1) := by decide +kernel
theorem dX5_goesOver_5 : decode cX5_goesOver 5 = .ok (.iload 4, 2) := by decide +kernel
theorem dX5_goesOver_7 : decode cX5_goesOver 7 = .ok (.invokevirtual 30, 3) := by decide +kernel
theorem dX5_goesOver_10 : decode cX5_goesOver 10 = .ok (.istore 5, 2) := by decide +kernel
theorem dX5_goesOver_12 : decode cX5_goesOver 12 = .ok (.aload_n 0, 1) := by decide +kernel
theorem dX5_goesOver_13 : decode cX5_goesOver 13 = .ok (.iload_n 1, 1) := by decide +kernel
theorem dX5_goesOver_14 : decode cX5_goesOver 14 = .ok (.iload_n 3, 1) := by decide +kernel
theorem dX5_goesOver_15 : decode cX5_goesOver 15 = .ok (.invokevirtual 44, 3) := by decide +kernel
theorem dX5_goesOver_18 : decode cX5_goesOver 18 = .ok (.iload 5, 2) := by decide +kernel
theorem dX5_goesOver_20 : decode cX5_goesOver 20 = .ok (.iadd, 1) := by decide +kernel
theorem dX5_goesOver_21 : decode cX5_goesOver 21 = .ok (.aload_n 0, 1) := by decide +kernel
theorem dX5_goesOver_22 : decode cX5_goesOver 22 = .ok (.iload 4, 2) := by decide +kernel
theorem dX5_goesOver_24 : decode cX5_goesOver 24 = .ok (.iload_n 2, 1) := by decide +kernel
theorem dX5_goesOver_25 : decode cX5_goesOver 25 = .ok (.invokevirtual 44, 3) := by decide +kernel
theorem dX5_goesOver_28 : decode cX5_goesOver 28 = .ok (.iadd, 1) := by decide +kernel
theorem dX5_goesOver_29 : decode cX5_goesOver 29 = .ok (.istore 6, 2) := by decide +kernel
theorem dX5_goesOver_31 : decode cX5_goesOver 31 = .ok (.aload_n 0, 1) := by decide +kernel
theorem dX5_goesOver_32 : decode cX5_goesOver 32 = .ok (.iload_n 1, 1) := by decide +kernel
theorem dX5_goesOver_33 : decode cX5_goesOver 33 = .ok (.iload 4, 2) := by decide +kernel
theorem dX5_goesOver_35 : decode cX5_goesOver 35 = .ok (.invokevirtual 44, 3) := by decide +kernel
theorem dX5_goesOver_38 : decode cX5_goesOver 38 = .ok (.iload 5, 2) := by decide +kernel
theorem dX5_goesOver_40 : decode cX5_goesOver 40 = .ok (.iadd, 1) := by decide +kernel
theorem dX5_goesOver_41 : decode cX5_goesOver 41 = .ok (.aload_n 0, 1) := by decide +kernel
theorem dX5_goesOver_42 : decode cX5_goesOver 42 = .ok (.iload_n 3, 1) := by decide +kernel
theorem dX5_goesOver_43 : decode cX5_goesOver 43 = .ok (.iload_n 2, 1) := by decide +kernel
theorem dX5_goesOver_44 : decode cX5_goesOver 44 = .ok (.invokevirtual 44, 3) := by decide +kernel
theorem dX5_goesOver_47 : decode cX5_goesOver 47 = .ok (.iadd, 1) := by decide +kernel
theorem dX5_goesOver_48 : decode cX5_goesOver 48 = .ok (.istore 7, 2) := by decide +kernel
theorem dX5_goesOver_50 : decode cX5_goesOver 50 = .ok (.iload 6, 2) := by decide +kernel
theorem dX5_goesOver_52 : decode cX5_goesOver 52 = .ok (.iload 7, 2) := by decide +kernel
theorem dX5_goesOver_54 : decode cX5_goesOver 54 = .ok (.invokestatic 39, 3) := by decide +kernel
theorem dX5_goesOver_57 : decode cX5_goesOver 57 = .ok (.aload_n 0, 1) := by decide +kernel
theorem dX5_goesOver_58 : decode cX5_goesOver 58 = .ok (.iload_n 1, 1) := by decide +kernel
theorem dX5_goesOver_59 : decode cX5_goesOver 59 = .ok (.iload_n 2, 1) := by decide +kernel
theorem dX5_goesOver_60 : decode cX5_goesOver 60 = .ok (.invokevirtual 44, 3) := by decide +kernel
theorem dX5_goesOver_63 : decode cX5_goesOver 63 = .ok (.if_icmp .ne 7, 3) := by decide +kernel
theorem dX5_goesOver_66 : decode cX5_goesOver 66 = .ok (.iconst 1, 1) := by decide +kernel
theorem dX5_goesOver_67 : decode cX5_goesOver 67 = .ok (.goto 4, 3) := by decide +kernel
theorem dX5_goesOver_70 : decode cX5_goesOver 70 = .ok (.iconst 0, 1) := by decide +kernel
theorem dX5_goesOver_71 : decode cX5_goesOver 71 = .ok (.ireturn, 1) := by decide +kernel
theorem dX5_evenestEdge_0 : decode cX5_evenestEdge 0 = .ok (.bipush (-9), 2) := by decide +kernel
theorem dX5_evenestEdge_2 : decode cX5_evenestEdge 2 = .ok (.istore_n 2, 1) := by decide +kernel
theorem dX5_evenestEdge_3 : decode cX5_evenestEdge 3 = .ok (.ldc 67, 2) := by decide +kernel
theorem dX5_evenestEdge_5 : decode cX5_evenestEdge 5 = .ok (.istore_n 3, 1) := by decide +kernel
theorem dX5_evenestEdge_6 : decode cX5_evenestEdge 6 = .ok (.iconst 0, 1) := by decide +kernel
theorem dX5_evenestEdge_7 : decode cX5_evenestEdge 7 = .ok (.istore 4, 2) := by decide +kernel
theorem dX5_evenestEdge_9 : decode cX5_evenestEdge 9 = .ok (.iload 4, 2) := by decide +kernel
theorem dX5_evenestEdge_11 : decode cX5_evenestEdge 11 = .ok (.aload_n 0, 1) := by decide +kernel
theorem dX5_evenestEdge_12 : decode cX5_evenestEdge 12 = .ok (.getfield 26, 3) := by decide +kernel
theorem dX5_evenestEdge_15 : decode cX5_evenestEdge 15 = .ok (.if_icmp .ge 84, 3) := by decide +kernel
theorem dX5_evenestEdge_18 : decode cX5_evenestEdge 18 = .ok (.iload 4, 2) := by decide +kernel
theorem dX5_evenestEdge_20 : decode cX5_evenestEdge 20 = .ok (.iconst 1, 1) := by decide +kernel
theorem dX5_evenestEdge_21 : decode cX5_evenestEdge 21 = .ok (.iadd, 1) := by decide +kernel
theorem dX5_evenestEdge_22 : decode cX5_evenestEdge 22 = .ok (.istore 5, 2) := by decide +kernel
theorem dX5_evenestEdge_24 : decode cX5_evenestEdge 24 = .ok (.iload 5, 2) := by decide +kernel
theorem dX5_evenestEdge_26 : decode cX5_evenestEdge 26 = .ok (.aload_n 0, 1) := by decide +kernel
theorem dX5_evenestEdge_27 : decode cX5_evenestEdge 27 = .ok (.getfield 26, 3) := by decide +kernel
theorem dX5_evenestEdge_30 : decode cX5_evenestEdge 30 = .ok (.if_icmp .ge 63, 3) := by decide +kernel
theorem dX5_evenestEdge_33 : decode cX5_evenestEdge 33 = .ok (.aload_n 0, 1) := by decide +kernel
theorem dX5_evenestEdge_34 : decode cX5_evenestEdge 34 = .ok (.getfield 9, 3) := by decide +kernel
theorem dX5_evenestEdge_37 : decode cX5_evenestEdge 37 = .ok (.iload 4, 2) := by decide +kernel
theorem dX5_evenestEdge_39 : decode cX5_evenestEdge 39 = .ok (.iload 5, 2) := by decide +kernel
theorem dX5_evenestEdge_41 : decode cX5_evenestEdge 41 = .ok (.invokevirtual 54, 3) := by decide +kernel
theorem dX5_evenestEdge_44 : decode cX5_evenestEdge 44 = .ok (.ifCond .eq 43, 3) := by decide +kernel
theorem dX5_evenestEdge_47 : decode cX5_evenestEdge 47 = .ok (.aload_n 0, 1) := by decide +kernel
theorem dX5_evenestEdge_48 : decode cX5_evenestEdge 48 = .ok (.iload 4, 2) := by decide +kernel
theorem dX5_evenestEdge_50 : decode cX5_evenestEdge 50 = .ok (.iload_n 1, 1) := by decide +kernel
theorem dX5_evenestEdge_51 : decode cX5_evenestEdge 51 = .ok (.invokevirtual 47, 3) := by decide +kernel
theorem dX5_evenestEdge_54 : decode cX5_evenestEdge 54 = .ok (.ifCond .eq 33, 3) := by decide +kernel
theorem dX5_evenestEdge_57 : decode cX5_evenestEdge 57 = .ok (.aload_n 0, 1) := by decide +kernel
theorem dX5_evenestEdge_58 : decode cX5_evenestEdge 58 = .ok (.iload 4, 2) := by decide +kernel
theorem dX5_evenestEdge_60 : decode cX5_evenestEdge 60 = .ok (.iload 5, 2) := by decide +kernel
theorem dX5_evenestEdge_62 : decode cX5_evenestEdge 62 = .ok (.invokevirtual 78, 3) := by decide +kernel
theorem dX5_evenestEdge_65 : decode cX5_evenestEdge 65 = .ok (.iload_n 3, 1) := by decide +kernel
theorem dX5_evenestEdge_66 : decode cX5_evenestEdge 66 = .ok (.if_icmp .ge 21, 3) := by decide +kernel
theorem dX5_evenestEdge_69 : decode cX5_evenestEdge 69 = .ok (.bipush 100, 2) := by decide +kernel
theorem dX5_evenestEdge_71 : decode cX5_evenestEdge 71 = .ok (.iload 4, 2) := by decide +kernel
theorem dX5_evenestEdge_73 : decode cX5_evenestEdge 73 = .ok (.imul, 1) := by decide +kernel
theorem dX5_evenestEdge_74 : decode cX5_evenestEdge 74 = .ok (.iload 5, 2) := by decide +kernel
theorem dX5_evenestEdge_76 : decode cX5_evenestEdge 76 = .ok (.iadd, 1) := by decide +kernel
theorem dX5_evenestEdge_77 : decode cX5_evenestEdge 77 = .ok (.istore_n 2, 1) := by decide +kernel
theorem dX5_evenestEdge_78 : decode cX5_evenestEdge 78 = .ok (.aload_n 0, 1) := by decide +kernel
theorem dX5_evenestEdge_79 : decode cX5_evenestEdge 79 = .ok (.iload 4, 2) := by decide +kernel
theorem dX5_evenestEdge_81 : decode cX5_evenestEdge 81 = .ok (.iload 5, 2) := by decide +kernel
theorem dX5_evenestEdge_83 : decode cX5_evenestEdge 83 = .ok (.invokevirtual 78, 3) := by decide +kernel
theorem dX5_evenestEdge_86 : decode cX5_evenestEdge 86 = .ok (.istore_n 3, 1) := by decide +kernel
theorem dX5_evenestEdge_87 : decode cX5_evenestEdge 87 = .ok (.iinc 5 1, 3) := by decide +kernel
theorem dX5_evenestEdge_90 : decode cX5_evenestEdge 90 = .ok (.goto (-66), 3) := by decide +kernel
theorem dX5_evenestEdge_93 : decode cX5_evenestEdge 93 = .ok (.iinc 4 1, 3) := by decide +kernel
theorem dX5_evenestEdge_96 : decode cX5_evenestEdge 96 = .ok (.goto (-87), 3) := by decide +kernel
theorem dX5_evenestEdge_99 : decode cX5_evenestEdge 99 = .ok (.iload_n 2, 1) := by decide +kernel
theorem dX5_evenestEdge_100 : decode cX5_evenestEdge 100 = .ok (.ireturn, 1) := by decide +kernel
theorem dX5_heavierPart_0 : decode cX5_heavierPart 0 = .ok (.iconst 0, 1) := by decide +kernel
theorem dX5_heavierPart_1 : decode cX5_heavierPart 1 = .ok (.istore_n 3, 1) := by decide +kernel
theorem dX5_heavierPart_2 : decode cX5_heavierPart 2 = .ok (.iconst 0, 1) := by decide +kernel
theorem dX5_heavierPart_3 : decode cX5_heavierPart 3 = .ok (.istore 4, 2) := by decide +kernel
theorem dX5_heavierPart_5 : decode cX5_heavierPart 5 = .ok (.iconst 0, 1) := by decide +kernel
theorem dX5_heavierPart_6 : decode cX5_heavierPart 6 = .ok (.istore 5, 2) := by decide +kernel
theorem dX5_heavierPart_8 : decode cX5_heavierPart 8 = .ok (.iload 5, 2) := by decide +kernel
theorem dX5_heavierPart_10 : decode cX5_heavierPart 10 = .ok (.aload_n 0, 1) := by decide +kernel
theorem dX5_heavierPart_11 : decode cX5_heavierPart 11 = .ok (.getfield 26, 3) := by decide +kernel
theorem dX5_heavierPart_14 : decode cX5_heavierPart 14 = .ok (.if_icmp .ge 75, 3) := by decide +kernel
theorem dX5_heavierPart_17 : decode cX5_heavierPart 17 = .ok (.aload_n 0, 1) := by decide +kernel
theorem dX5_heavierPart_18 : decode cX5_heavierPart 18 = .ok (.iload 5, 2) := by decide +kernel
theorem dX5_heavierPart_20 : decode cX5_heavierPart 20 = .ok (.iload_n 1, 1) := by decide +kernel
theorem dX5_heavierPart_21 : decode cX5_heavierPart 21 = .ok (.invokevirtual 47, 3) := by decide +kernel
theorem dX5_heavierPart_24 : decode cX5_heavierPart 24 = .ok (.ifCond .eq 35, 3) := by decide +kernel
theorem dX5_heavierPart_27 : decode cX5_heavierPart 27 = .ok (.aload_n 0, 1) := by decide +kernel
theorem dX5_heavierPart_28 : decode cX5_heavierPart 28 = .ok (.iload 5, 2) := by decide +kernel
theorem dX5_heavierPart_30 : decode cX5_heavierPart 30 = .ok (.iload_n 1, 1) := by decide +kernel
theorem dX5_heavierPart_31 : decode cX5_heavierPart 31 = .ok (.invokevirtual 44, 3) := by decide +kernel
theorem dX5_heavierPart_34 : decode cX5_heavierPart 34 = .ok (.aload_n 0, 1) := by decide +kernel
theorem dX5_heavierPart_35 : decode cX5_heavierPart 35 = .ok (.iload 5, 2) := by decide +kernel
theorem dX5_heavierPart_37 : decode cX5_heavierPart 37 = .ok (.iload_n 2, 1) := by decide +kernel
theorem dX5_heavierPart_38 : decode cX5_heavierPart 38 = .ok (.invokevirtual 44, 3) := by decide +kernel
theorem dX5_heavierPart_41 : decode cX5_heavierPart 41 = .ok (.if_icmp .ge 18, 3) := by decide +kernel
theorem dX5_heavierPart_44 : decode cX5_heavierPart 44 = .ok (.iload_n 3, 1) := by decide +kernel
theorem dX5_heavierPart_45 : decode cX5_heavierPart 45 = .ok (.aload_n 0, 1) := by decide +kernel
theorem dX5_heavierPart_46 : decode cX5_heavierPart 46 = .ok (.getfield 9, 3) := by decide +kernel
theorem dX5_heavierPart_49 : decode cX5_heavierPart 49 = .ok (.iload 5, 2) := by decide +kernel
theorem dX5_heavierPart_51 : decode cX5_heavierPart 51 = .ok (.invokevirtual 68, 3) := by decide +kernel
theorem dX5_heavierPart_54 : decode cX5_heavierPart 54 = .ok (.iadd, 1) := by decide +kernel
theorem dX5_heavierPart_55 : decode cX5_heavierPart 55 = .ok (.istore_n 3, 1) := by decide +kernel
theorem dX5_heavierPart_56 : decode cX5_heavierPart 56 = .ok (.goto 27, 3) := by decide +kernel
theorem dX5_heavierPart_59 : decode cX5_heavierPart 59 = .ok (.aload_n 0, 1) := by decide +kernel
theorem dX5_heavierPart_60 : decode cX5_heavierPart 60 = .ok (.iload 5, 2) := by decide +kernel
theorem dX5_heavierPart_62 : decode cX5_heavierPart 62 = .ok (.iload_n 1, 1) := by decide +kernel
theorem dX5_heavierPart_63 : decode cX5_heavierPart 63 = .ok (.invokevirtual 47, 3) := by decide +kernel
theorem dX5_heavierPart_66 : decode cX5_heavierPart 66 = .ok (.ifCond .eq 17, 3) := by decide +kernel
theorem dX5_heavierPart_69 : decode cX5_heavierPart 69 = .ok (.iload 4, 2) := by decide +kernel
theorem dX5_heavierPart_71 : decode cX5_heavierPart 71 = .ok (.aload_n 0, 1) := by decide +kernel
theorem dX5_heavierPart_72 : decode cX5_heavierPart 72 = .ok (.getfield 9, 3) := by decide +kernel
theorem dX5_heavierPart_75 : decode cX5_heavierPart 75 = .ok (.iload 5, 2) := by decide +kernel
theorem dX5_heavierPart_77 : decode cX5_heavierPart 77 = .ok (.invokevirtual 68, 3) := by decide +kernel
theorem dX5_heavierPart_80 : decode cX5_heavierPart 80 = .ok (.iadd, 1) := by decide +kernel
theorem dX5_heavierPart_81 : decode cX5_heavierPart 81 = .ok (.istore 4, 2) := by decide +kernel
theorem dX5_heavierPart_83 : decode cX5_heavierPart 83 = .ok (.iinc 5 1, 3) := by decide +kernel
theorem dX5_heavierPart_86 : decode cX5_heavierPart 86 = .ok (.goto (-78), 3) := by decide +kernel
theorem dX5_heavierPart_89 : decode cX5_heavierPart 89 = .ok (.iload_n 3, 1) := by decide +kernel
theorem dX5_heavierPart_90 : decode cX5_heavierPart 90 = .ok (.iload 4, 2) := by decide +kernel
theorem dX5_heavierPart_92 : decode cX5_heavierPart 92 = .ok (.invokestatic 81, 3) := by decide +kernel
theorem dX5_heavierPart_95 : decode cX5_heavierPart 95 = .ok (.ireturn, 1) := by decide +kernel
theorem dX5_reachOf_0 : decode cX5_reachOf 0 = .ok (.lconst 0, 1) := by decide +kernel
theorem dX5_reachOf_1 : decode cX5_reachOf 1 = .ok (.lstore_n 3, 1) := by decide +kernel
theorem dX5_reachOf_2 : decode cX5_reachOf 2 = .ok (.iconst 0, 1) := by decide +kernel
theorem dX5_reachOf_3 : decode cX5_reachOf 3 = .ok (.istore 5, 2) := by decide +kernel
theorem dX5_reachOf_5 : decode cX5_reachOf 5 = .ok (.iload 5, 2) := by decide +kernel
theorem dX5_reachOf_7 : decode cX5_reachOf 7 = .ok (.aload_n 0, 1) := by decide +kernel
theorem dX5_reachOf_8 : decode cX5_reachOf 8 = .ok (.getfield 26, 3) := by decide +kernel
theorem dX5_reachOf_11 : decode cX5_reachOf 11 = .ok (.if_icmp .ge 41, 3) := by decide +kernel
theorem dX5_reachOf_14 : decode cX5_reachOf 14 = .ok (.aload_n 0, 1) := by decide +kernel
theorem dX5_reachOf_15 : decode cX5_reachOf 15 = .ok (.iload 5, 2) := by decide +kernel
theorem dX5_reachOf_17 : decode cX5_reachOf 17 = .ok (.iload_n 1, 1) := by decide +kernel
theorem dX5_reachOf_18 : decode cX5_reachOf 18 = .ok (.invokevirtual 47, 3) := by decide +kernel
theorem dX5_reachOf_21 : decode cX5_reachOf 21 = .ok (.ifCond .eq 25, 3) := by decide +kernel
theorem dX5_reachOf_24 : decode cX5_reachOf 24 = .ok (.lload_n 3, 1) := by decide +kernel
theorem dX5_reachOf_25 : decode cX5_reachOf 25 = .ok (.aload_n 0, 1) := by decide +kernel
theorem dX5_reachOf_26 : decode cX5_reachOf 26 = .ok (.getfield 9, 3) := by decide +kernel
theorem dX5_reachOf_29 : decode cX5_reachOf 29 = .ok (.iload 5, 2) := by decide +kernel
theorem dX5_reachOf_31 : decode cX5_reachOf 31 = .ok (.invokevirtual 68, 3) := by decide +kernel
theorem dX5_reachOf_34 : decode cX5_reachOf 34 = .ok (.i2l, 1) := by decide +kernel
theorem dX5_reachOf_35 : decode cX5_reachOf 35 = .ok (.aload_n 0, 1) := by decide +kernel
theorem dX5_reachOf_36 : decode cX5_reachOf 36 = .ok (.iload 5, 2) := by decide +kernel
theorem dX5_reachOf_38 : decode cX5_reachOf 38 = .ok (.iload_n 1, 1) := by decide +kernel
theorem dX5_reachOf_39 : decode cX5_reachOf 39 = .ok (.iload_n 2, 1) := by decide +kernel
theorem dX5_reachOf_40 : decode cX5_reachOf 40 = .ok (.invokevirtual 84, 3) := by decide +kernel
theorem dX5_reachOf_43 : decode cX5_reachOf 43 = .ok (.lmul, 1) := by decide +kernel
theorem dX5_reachOf_44 : decode cX5_reachOf 44 = .ok (.ladd, 1) := by decide +kernel
theorem dX5_reachOf_45 : decode cX5_reachOf 45 = .ok (.lstore_n 3, 1) := by decide +kernel
theorem dX5_reachOf_46 : decode cX5_reachOf 46 = .ok (.iinc 5 1, 3) := by decide +kernel
theorem dX5_reachOf_49 : decode cX5_reachOf 49 = .ok (.goto (-44), 3) := by decide +kernel
theorem dX5_reachOf_52 : decode cX5_reachOf 52 = .ok (.lload_n 3, 1) := by decide +kernel
theorem dX5_reachOf_53 : decode cX5_reachOf 53 = .ok (.lreturn, 1) := by decide +kernel
theorem dX5_chanceOfPath_0 : decode cX5_chanceOfPath 0 = .ok (.ldc2_w 88, 3) := by decide +kernel
theorem dX5_chanceOfPath_3 : decode cX5_chanceOfPath 3 = .ok (.lstore 4, 2) := by decide +kernel
theorem dX5_chanceOfPath_5 : decode cX5_chanceOfPath 5 = .ok (.iload_n 1, 1) := by decide +kernel
theorem dX5_chanceOfPath_6 : decode cX5_chanceOfPath 6 = .ok (.istore 6, 2) := by decide +kernel
theorem dX5_chanceOfPath_8 : decode cX5_chanceOfPath 8 = .ok (.iconst 0, 1) := by decide +kernel
theorem dX5_chanceOfPath_9 : decode cX5_chanceOfPath 9 = .ok (.istore 7, 2) := by decide +kernel
theorem dX5_chanceOfPath_11 : decode cX5_chanceOfPath 11 = .ok (.iload 7, 2) := by decide +kernel
theorem dX5_chanceOfPath_13 : decode cX5_chanceOfPath 13 = .ok (.bipush 12, 2) := by decide +kernel
theorem dX5_chanceOfPath_15 : decode cX5_chanceOfPath 15 = .ok (.if_icmp .ge 35, 3) := by decide +kernel
theorem dX5_chanceOfPath_18 : decode cX5_chanceOfPath 18 = .ok (.iload 6, 2) := by decide +kernel
theorem dX5_chanceOfPath_20 : decode cX5_chanceOfPath 20 = .ok (.iload_n 2, 1) := by decide +kernel
theorem dX5_chanceOfPath_21 : decode cX5_chanceOfPath 21 = .ok (.if_icmp .eq 29, 3) := by decide +kernel
theorem dX5_chanceOfPath_24 : decode cX5_chanceOfPath 24 = .ok (.lload 4, 2) := by decide +kernel
theorem dX5_chanceOfPath_26 : decode cX5_chanceOfPath 26 = .ok (.ldc2_w 90, 3) := by decide +kernel
theorem dX5_chanceOfPath_29 : decode cX5_chanceOfPath 29 = .ok (.ldiv, 1) := by decide +kernel
theorem dX5_chanceOfPath_30 : decode cX5_chanceOfPath 30 = .ok (.iload_n 3, 1) := by decide +kernel
theorem dX5_chanceOfPath_31 : decode cX5_chanceOfPath 31 = .ok (.i2l, 1) := by decide +kernel
theorem dX5_chanceOfPath_32 : decode cX5_chanceOfPath 32 = .ok (.lmul, 1) := by decide +kernel
theorem dX5_chanceOfPath_33 : decode cX5_chanceOfPath 33 = .ok (.lstore 4, 2) := by decide +kernel
theorem dX5_chanceOfPath_35 : decode cX5_chanceOfPath 35 = .ok (.aload_n 0, 1) := by decide +kernel
theorem dX5_chanceOfPath_36 : decode cX5_chanceOfPath 36 = .ok (.iload 6, 2) := by decide +kernel
theorem dX5_chanceOfPath_38 : decode cX5_chanceOfPath 38 = .ok (.iload_n 2, 1) := by decide +kernel
theorem dX5_chanceOfPath_39 : decode cX5_chanceOfPath 39 = .ok (.invokevirtual 51, 3) := by decide +kernel
theorem dX5_chanceOfPath_42 : decode cX5_chanceOfPath 42 = .ok (.istore 6, 2) := by decide +kernel
theorem dX5_chanceOfPath_44 : decode cX5_chanceOfPath 44 = .ok (.iinc 7 1, 3) := by decide +kernel
theorem dX5_chanceOfPath_47 : decode cX5_chanceOfPath 47 = .ok (.goto (-36), 3) := by decide +kernel
theorem dX5_chanceOfPath_50 : decode cX5_chanceOfPath 50 = .ok (.lload 4, 2) := by decide +kernel
theorem dX5_chanceOfPath_52 : decode cX5_chanceOfPath 52 = .ok (.lreturn, 1) := by decide +kernel
theorem dX6_init_0 : decode cX6_init 0 = .ok (.aload_n 0, 1) := by decide +kernel
theorem dX6_init_1 : decode cX6_init 1 = .ok (.invokespecial 1, 3) := by decide +kernel
theorem dX6_init_4 : decode cX6_init 4 = .ok (.aload_n 0, 1) := by decide +kernel
theorem dX6_init_5 : decode cX6_init 5 = .ok (.new 7, 3) := by decide +kernel
theorem dX6_init_8 : decode cX6_init 8 = .ok (.dup, 1) := by decide +kernel
theorem dX6_init_9 : decode cX6_init 9 = .ok (.invokespecial 9, 3) := by decide +kernel
theorem dX6_init_12 : decode cX6_init 12 = .ok (.putfield 10, 3) := by decide +kernel
theorem dX6_init_15 : decode cX6_init 15 = .ok (.aload_n 0, 1) := by decide +kernel
theorem dX6_init_16 : decode cX6_init 16 = .ok (.new 16, 3) := by decide +kernel
theorem dX6_init_19 : decode cX6_init 19 = .ok (.dup, 1) := by decide +kernel
theorem dX6_init_20 : decode cX6_init 20 = .ok (.aload_n 0, 1) := by decide +kernel
theorem dX6_init_21 : decode cX6_init 21 = .ok (.getfield 10, 3) := by decide +kernel
theorem dX6_init_24 : decode cX6_init 24 = .ok (.invokespecial 18, 3) := by decide +kernel
theorem dX6_init_27 : decode cX6_init 27 = .ok (.putfield 21, 3) := by decide +kernel
theorem dX6_init_30 : decode cX6_init 30 = .ok (.aload_n 0, 1) := by decide +kernel
theorem dX6_init_31 : decode cX6_init 31 = .ok (.new 7, 3) := by decide +kernel
theorem dX6_init_34 : decode cX6_init 34 = .ok (.dup, 1) := by decide +kernel
theorem dX6_init_35 : decode cX6_init 35 = .ok (.invokespecial 9, 3) := by decide +kernel
theorem dX6_init_38 : decode cX6_init 38 = .ok (.putfield 25, 3) := by decide +kernel
theorem dX6_init_41 : decode cX6_init 41 = .ok (.aload_n 0, 1) := by decide +kernel
theorem dX6_init_42 : decode cX6_init 42 = .ok (.new 16, 3) := by decide +kernel
theorem dX6_init_45 : decode cX6_init 45 = .ok (.dup, 1) := by decide +kernel
theorem dX6_init_46 : decode cX6_init 46 = .ok (.aload_n 0, 1) := by decide +kernel
theorem dX6_init_47 : decode cX6_init 47 = .ok (.getfield 25, 3) := by decide +kernel
theorem dX6_init_50 : decode cX6_init 50 = .ok (.invokespecial 18, 3) := by decide +kernel
theorem dX6_init_53 : decode cX6_init 53 = .ok (.putfield 28, 3) := by decide +kernel
theorem dX6_init_56 : decode cX6_init 56 = .ok (.aload_n 0, 1) := by decide +kernel
theorem dX6_init_57 : decode cX6_init 57 = .ok (.new 31, 3) := by decide +kernel
theorem dX6_init_60 : decode cX6_init 60 = .ok (.dup, 1) := by decide +kernel
theorem dX6_init_61 : decode cX6_init 61 = .ok (.invokespecial 33, 3) := by decide +kernel
theorem dX6_init_64 : decode cX6_init 64 = .ok (.putfield 34, 3) := by decide +kernel
theorem dX6_init_67 : decode cX6_init 67 = .ok (.aload_n 0, 1) := by decide +kernel
theorem dX6_init_68 : decode cX6_init 68 = .ok (.new 38, 3) := by decide +kernel
theorem dX6_init_71 : decode cX6_init 71 = .ok (.dup, 1) := by decide +kernel
theorem dX6_init_72 : decode cX6_init 72 = .ok (.invokespecial 40, 3) := by decide +kernel
theorem dX6_init_75 : decode cX6_init 75 = .ok (.putfield 41, 3) := by decide +kernel
theorem dX6_init_78 : decode cX6_init 78 = .ok (.aload_n 0, 1) := by decide +kernel
theorem dX6_init_79 : decode cX6_init 79 = .ok (.new 45, 3) := by decide +kernel
theorem dX6_init_82 : decode cX6_init 82 = .ok (.dup, 1) := by decide +kernel
theorem dX6_init_83 : decode cX6_init 83 = .ok (.invokespecial 47, 3) := by decide +kernel
theorem dX6_init_86 : decode cX6_init 86 = .ok (.putfield 48, 3) := by decide +kernel
theorem dX6_init_89 : decode cX6_init 89 = .ok (.aload_n 0, 1) := by decide +kernel
theorem dX6_init_90 : decode cX6_init 90 = .ok (.new 52, 3) := by decide +kernel
theorem dX6_init_93 : decode cX6_init 93 = .ok (.dup, 1) := by decide +kernel
theorem dX6_init_94 : decode cX6_init 94 = .ok (.invokespecial 54, 3) := by decide +kernel
theorem dX6_init_97 : decode cX6_init 97 = .ok (.putfield 55, 3) := by decide +kernel
theorem dX6_init_100 : decode cX6_init 100 = .ok (.aload_n 0, 1) := by decide +kernel
theorem dX6_init_101 : decode cX6_init 101 = .ok (.iconst 2, 1) := by decide +kernel
theorem dX6_init_102 : decode cX6_init 102 = .ok (.anewarray 7, 3) := by decide +kernel
theorem dX6_init_105 : decode cX6_init 105 = .ok (.putfield 59, 3) := by decide +kernel
theorem dX6_init_108 : decode cX6_init 108 = .ok (.iconst 0, 1) := by decide +kernel
theorem dX6_init_109 : decode cX6_init 109 = .ok (.istore_n 1, 1) := by decide +kernel
theorem dX6_init_110 : decode cX6_init 110 = .ok (.iload_n 1, 1) := by decide +kernel
theorem dX6_init_111 : decode cX6_init 111 = .ok (.iconst 2, 1) := by decide +kernel
theorem dX6_init_112 : decode cX6_init 112 = .ok (.if_icmp .ge 22, 3) := by decide +kernel
theorem dX6_init_115 : decode cX6_init 115 = .ok (.aload_n 0, 1) := by decide +kernel
theorem dX6_init_116 : decode cX6_init 116 = .ok (.getfield 59, 3) := by decide +kernel
theorem dX6_init_119 : decode cX6_init 119 = .ok (.iload_n 1, 1) := by decide +kernel
theorem dX6_init_120 : decode cX6_init 120 = .ok (.new 7, 3) := by decide +kernel
theorem dX6_init_123 : decode cX6_init 123 = .ok (.dup, 1) := by decide +kernel
theorem dX6_init_124 : decode cX6_init 124 = .ok (.invokespecial 9, 3) := by decide +kernel
theorem dX6_init_127 : decode cX6_init 127 = .ok (.aastore, 1) := by decide +kernel
theorem dX6_init_128 : decode cX6_init 128 = .ok (.iinc 1 1, 3) := by decide +kernel
theorem dX6_init_131 : decode cX6_init 131 = .ok (.goto (-21), 3) := by decide +kernel
theorem dX6_init_134 : decode cX6_init 134 = .ok (.aload_n 0, 1) := by decide +kernel
theorem dX6_init_135 : decode cX6_init 135 = .ok (.iconst 2, 1) := by decide +kernel
theorem dX6_init_136 : decode cX6_init 136 = .ok (.newarray .boolean, 2) := by decide +kernel
theorem dX6_init_138 : decode cX6_init 138 = .ok (.putfield 63, 3) := by decide +kernel
theorem dX6_init_141 : decode cX6_init 141 = .ok (.return_, 1) := by decide +kernel
theorem dX6_append_0 : decode cX6_append 0 = .ok (.iload_n 1, 1) := by decide +kernel
theorem dX6_append_1 : decode cX6_append 1 = .ok (.ifCond .lt 10, 3) := by decide +kernel
theorem dX6_append_4 : decode cX6_append 4 = .ok (.iload_n 1, 1) := by decide +kernel
theorem dX6_append_5 : decode cX6_append 5 = .ok (.sipush 255, 3) := by decide +kernel
theorem dX6_append_8 : decode cX6_append 8 = .ok (.if_icmp .le 6, 3) := by decide +kernel
theorem dX6_append_11 : decode cX6_append 11 = .ok (.bipush (-2), 2) := by decide +kernel
theorem dX6_append_13 : decode cX6_append 13 = .ok (.ireturn, 1) := by decide +kernel
theorem dX6_append_14 : decode cX6_append 14 = .ok (.aload_n 0, 1) := by decide +kernel
theorem dX6_append_15 : decode cX6_append 15 = .ok (.getfield 41, 3) := by decide +kernel
theorem dX6_append_18 : decode cX6_append 18 = .ok (.iload_n 1, 1) := by decide +kernel
theorem dX6_append_19 : decode cX6_append 19 = .ok (.invokevirtual 67, 3) := by decide +kernel
theorem dX6_append_22 : decode cX6_append 22 = .ok (.ifCond .eq 13, 3) := by decide +kernel
theorem dX6_append_25 : decode cX6_append 25 = .ok (.aload_n 0, 1) := by decide +kernel
theorem dX6_append_26 : decode cX6_append 26 = .ok (.getfield 41, 3) := by decide +kernel
theorem dX6_append_29 : decode cX6_append 29 = .ok (.invokevirtual 71, 3) := by decide +kernel
theorem dX6_append_32 : decode cX6_append 32 = .ok (.goto 5, 3) := by decide +kernel
theorem dX6_append_35 : decode cX6_append 35 = .ok (.bipush (-4), 2) := by decide +kernel
theorem dX6_append_37 : decode cX6_append 37 = .ok (.ireturn, 1) := by decide +kernel
theorem dX6_clearText_0 : decode cX6_clearText 0 = .ok (.aload_n 0, 1) := by decide +kernel
theorem dX6_clearText_1 : decode cX6_clearText 1 = .ok (.getfield 41, 3) := by decide +kernel
theorem dX6_clearText_4 : decode cX6_clearText 4 = .ok (.invokevirtual 71, 3) := by decide +kernel
theorem dX6_clearText_7 : decode cX6_clearText 7 = .ok (.istore_n 1, 1) := by decide +kernel
theorem dX6_clearText_8 : decode cX6_clearText 8 = .ok (.aload_n 0, 1) := by decide +kernel
theorem dX6_clearText_9 : decode cX6_clearText 9 = .ok (.getfield 41, 3) := by decide +kernel
theorem dX6_clearText_12 : decode cX6_clearText 12 = .ok (.invokevirtual 75, 3) := by decide +kernel
theorem dX6_clearText_15 : decode cX6_clearText 15 = .ok (.iload_n 1, 1) := by decide +kernel
theorem dX6_clearText_16 : decode cX6_clearText 16 = .ok (.ireturn, 1) := by decide +kernel
theorem dX6_errorPosition_0 : decode cX6_errorPosition 0 = .ok (.aload_n 0, 1) := by decide +kernel
theorem dX6_errorPosition_1 : decode cX6_errorPosition 1 = .ok (.getfield 41, 3) := by decide +kernel
theorem dX6_errorPosition_4 : decode cX6_errorPosition 4 = .ok (.aload_n 0, 1) := by decide +kernel
theorem dX6_errorPosition_5 : decode cX6_errorPosition 5 = .ok (.getfield 25, 3) := by decide +kernel
theorem dX6_errorPosition_8 : decode cX6_errorPosition 8 = .ok (.invokevirtual 78, 3) := by decide +kernel
theorem dX6_errorPosition_11 : decode cX6_errorPosition 11 = .ok (.ireturn, 1) := by decide +kernel
theorem dX6_load_0 : decode cX6_load 0 = .ok (.aload_n 0, 1) := by decide +kernel
theorem dX6_load_1 : decode cX6_load 1 = .ok (.getfield 41, 3) := by decide +kernel
theorem dX6_load_4 : decode cX6_load 4 = .ok (.aload_n 0, 1) := by decide +kernel
theorem dX6_load_5 : decode cX6_load 5 = .ok (.getfield 25, 3) := by decide +kernel
theorem dX6_load_8 : decode cX6_load 8 = .ok (.invokevirtual 78, 3) := by decide +kernel
theorem dX6_load_11 : decode cX6_load 11 = .ok (.bipush (-9), 2) := by decide +kernel
theorem dX6_load_13 : decode cX6_load 13 = .ok (.if_icmp .eq 6, 3) := by decide +kernel
theorem dX6_load_16 : decode cX6_load 16 = .ok (.bipush (-3), 2) := by decide +kernel
theorem dX6_load_18 : decode cX6_load 18 = .ok (.ireturn, 1) := by decide +kernel
theorem dX6_load_19 : decode cX6_load 19 = .ok (.aload_n 0, 1) := by decide +kernel
theorem dX6_load_20 : decode cX6_load 20 = .ok (.getfield 10, 3) := by decide +kernel
theorem dX6_load_23 : decode cX6_load 23 = .ok (.aload_n 0, 1) := by decide +kernel
theorem dX6_load_24 : decode cX6_load 24 = .ok (.getfield 25, 3) := by decide +kernel
theorem dX6_load_27 : decode cX6_load 27 = .ok (.invokevirtual 82, 3) := by decide +kernel
theorem dX6_load_30 : decode cX6_load 30 = .ok (.aload_n 0, 1) := by decide +kernel
theorem dX6_load_31 : decode cX6_load 31 = .ok (.getfield 48, 3) := by decide +kernel
theorem dX6_load_34 : decode cX6_load 34 = .ok (.invokevirtual 85, 3) := by decide +kernel
theorem dX6_load_37 : decode cX6_load 37 = .ok (.aload_n 0, 1) := by decide +kernel
theorem dX6_load_38 : decode cX6_load 38 = .ok (.invokevirtual 88, 3) := by decide +kernel
theorem dX6_load_41 : decode cX6_load 41 = .ok (.aload_n 0, 1) := by decide +kernel
theorem dX6_load_42 : decode cX6_load 42 = .ok (.getfield 10, 3) := by decide +kernel
theorem dX6_load_45 : decode cX6_load 45 = .ok (.invokevirtual 91, 3) := by decide +kernel
theorem dX6_load_48 : decode cX6_load 48 = .ok (.ireturn, 1) := by decide +kernel
theorem dX6_emptySlots_0 : decode cX6_emptySlots 0 = .ok (.iconst 0, 1) := by decide +kernel
theorem dX6_emptySlots_1 : decode cX6_emptySlots 1 = .ok (.istore_n 1, 1) := by decide +kernel
theorem dX6_emptySlots_2 : decode cX6_emptySlots 2 = .ok (.iload_n 1, 1) := by decide +kernel
theorem dX6_emptySlots_3 : decode cX6_emptySlots 3 = .ok (.iconst 2, 1) := by decide +kernel
theorem dX6_emptySlots_4 : decode cX6_emptySlots 4 = .ok (.if_icmp .ge 16, 3) := by decide +kernel
theorem dX6_emptySlots_7 : decode cX6_emptySlots 7 = .ok (.aload_n 0, 1) := by decide +kernel
theorem dX6_emptySlots_8 : decode cX6_emptySlots 8 = .ok (.getfield 63, 3) := by decide +kernel
theorem dX6_emptySlots_11 : decode cX6_emptySlots 11 = .ok (.iload_n 1, 1) := by decide +kernel
theorem dX6_emptySlots_12 : decode cX6_emptySlots 12 = .ok (.iconst 0, 1) := by decide +kernel
theorem dX6_emptySlots_13 : decode cX6_emptySlots 13 = .ok (.bastore, 1) := by decide +kernel
theorem dX6_emptySlots_14 : decode cX6_emptySlots 14 = .ok (.iinc 1 1, 3) := by decide +kernel
theorem dX6_emptySlots_17 : decode cX6_emptySlots 17 = .ok (.goto (-15), 3) := by decide +kernel
theorem dX6_emptySlots_20 : decode cX6_emptySlots 20 = .ok (.return_, 1) := by decide +kernel
theorem dX6_vertexWeight_0 : decode cX6_vertexWeight 0 = .ok (.aload_n 0, 1) := by decide +kernel
theorem dX6_vertexWeight_1 : decode cX6_vertexWeight 1 = .ok (.getfield 10, 3) := by decide +kernel
theorem dX6_vertexWeight_4 : decode cX6_vertexWeight 4 = .ok (.iload_n 1, 1) := by decide +kernel
theorem dX6_vertexWeight_5 : decode cX6_vertexWeight 5 = .ok (.invokevirtual 94, 3) := by decide +kernel
theorem dX6_vertexWeight_8 : decode cX6_vertexWeight 8 = .ok (.ifCond .eq 14, 3) := by decide +kernel
theorem dX6_vertexWeight_11 : decode cX6_vertexWeight 11 = .ok (.aload_n 0, 1) := by decide +kernel
theorem dX6_vertexWeight_12 : decode cX6_vertexWeight 12 = .ok (.getfield 10, 3) := by decide +kernel
theorem dX6_vertexWeight_15 : decode cX6_vertexWeight 15 = .ok (.iload_n 1, 1) := by decide +kernel
theorem dX6_vertexWeight_16 : decode cX6_vertexWeight 16 = .ok (.invokevirtual 97, 3) := by decide +kernel
theorem dX6_vertexWeight_19 : decode cX6_vertexWeight 19 = .ok (.goto 4, 3) := by decide +kernel
theorem dX6_vertexWeight_22 : decode cX6_vertexWeight 22 = .ok (.iconst (-1), 1) := by decide +kernel
theorem dX6_vertexWeight_23 : decode cX6_vertexWeight 23 = .ok (.ireturn, 1) := by decide +kernel
theorem dX6_edgeWeight_0 : decode cX6_edgeWeight 0 = .ok (.aload_n 0, 1) := by decide +kernel
theorem dX6_edgeWeight_1 : decode cX6_edgeWeight 1 = .ok (.getfield 10, 3) := by decide +kernel
theorem dX6_edgeWeight_4 : decode cX6_edgeWeight 4 = .ok (.iload_n 1, 1) := by decide +kernel
theorem dX6_edgeWeight_5 : decode cX6_edgeWeight 5 = .ok (.iload_n 2, 1) := by decide +kernel
theorem dX6_edgeWeight_6 : decode cX6_edgeWeight 6 = .ok (.invokevirtual 101, 3) := by decide +kernel
theorem dX6_edgeWeight_9 : decode cX6_edgeWeight 9 = .ok (.ifCond .ne 5, 3) := by decide +kernel
theorem dX6_edgeWeight_12 : decode cX6_edgeWeight 12 = .ok (.iconst (-1), 1) := by decide +kernel
theorem dX6_edgeWeight_13 : decode cX6_edgeWeight 13 = .ok (.ireturn, 1) := by decide +kernel
theorem dX6_edgeWeight_14 : decode cX6_edgeWeight 14 = .ok (.aload_n 0, 1) := by decide +kernel
theorem dX6_edgeWeight_15 : decode cX6_edgeWeight 15 = .ok (.getfield 10, 3) := by decide +kernel
theorem dX6_edgeWeight_18 : decode cX6_edgeWeight 18 = .ok (.iload_n 1, 1) := by decide +kernel
theorem dX6_edgeWeight_19 : decode cX6_edgeWeight 19 = .ok (.iload_n 2, 1) := by decide +kernel
theorem dX6_edgeWeight_20 : decode cX6_edgeWeight 20 = .ok (.invokevirtual 105, 3) := by decide +kernel
theorem dX6_edgeWeight_23 : decode cX6_edgeWeight 23 = .ok (.ifCond .eq 15, 3) := by decide +kernel
theorem dX6_edgeWeight_26 : decode cX6_edgeWeight 26 = .ok (.aload_n 0, 1) := by decide +kernel
theorem dX6_edgeWeight_27 : decode cX6_edgeWeight 27 = .ok (.getfield 10, 3) := by decide +kernel
theorem dX6_edgeWeight_30 : decode cX6_edgeWeight 30 = .ok (.iload_n 1, 1) := by decide +kernel
theorem dX6_edgeWeight_31 : decode cX6_edgeWeight 31 = .ok (.iload_n 2, 1) := by decide +kernel
theorem dX6_edgeWeight_32 : decode cX6_edgeWeight 32 = .ok (.invokevirtual 108, 3) := by decide +kernel
theorem dX6_edgeWeight_35 : decode cX6_edgeWeight 35 = .ok (.goto 5, 3) := by decide +kernel
theorem dX6_edgeWeight_38 : decode cX6_edgeWeight 38 = .ok (.bipush (-9), 2) := by decide +kernel
theorem dX6_edgeWeight_40 : decode cX6_edgeWeight 40 = .ok (.ireturn, 1) := by decide +kernel
theorem dX6_treeOf_0 : decode cX6_treeOf 0 = .ok (.aload_n 0, 1) := by decide +kernel
theorem dX6_treeOf_1 : decode cX6_treeOf 1 = .ok (.getfield 10, 3) := by decide +kernel
theorem dX6_treeOf_4 : decode cX6_treeOf 4 = .ok (.iload_n 1, 1) := by decide +kernel
theorem dX6_treeOf_5 : decode cX6_treeOf 5 = .ok (.invokevirtual 94, 3) := by decide +kernel
theorem dX6_treeOf_8 : decode cX6_treeOf 8 = .ok (.ifCond .ne 5, 3) := by decide +kernel
theorem dX6_treeOf_11 : decode cX6_treeOf 11 = .ok (.iconst (-1), 1) := by decide +kernel
theorem dX6_treeOf_12 : decode cX6_treeOf 12 = .ok (.ireturn, 1) := by decide +kernel
theorem dX6_treeOf_13 : decode cX6_treeOf 13 = .ok (.aload_n 0, 1) := by decide +kernel
theorem dX6_treeOf_14 : decode cX6_treeOf 14 = .ok (.getfield 21, 3) := by decide +kernel
theorem dX6_treeOf_17 : decode cX6_treeOf 17 = .ok (.invokevirtual 112, 3) := by decide +kernel
theorem dX6_treeOf_20 : decode cX6_treeOf 20 = .ok (.aload_n 0, 1) := by decide +kernel
theorem dX6_treeOf_21 : decode cX6_treeOf 21 = .ok (.getfield 21, 3) := by decide +kernel
theorem dX6_treeOf_24 : decode cX6_treeOf 24 = .ok (.iload_n 1, 1) := by decide +kernel
theorem dX6_treeOf_25 : decode cX6_treeOf 25 = .ok (.invokevirtual 115, 3) := by decide +kernel
theorem dX6_treeOf_28 : decode cX6_treeOf 28 = .ok (.ireturn, 1) := by decide +kernel
theorem dX6_link_0 : decode cX6_link 0 = .ok (.aload_n 0, 1) := by decide +kernel
theorem dX6_link_1 : decode cX6_link 1 = .ok (.getfield 10, 3) := by decide +kernel
theorem dX6_link_4 : decode cX6_link 4 = .ok (.aload_n 0, 1) := by decide +kernel
theorem dX6_link_5 : decode cX6_link 5 = .ok (.getfield 21, 3) := by decide +kernel
theorem dX6_link_8 : decode cX6_link 8 = .ok (.iload_n 1, 1) := by decide +kernel
theorem dX6_link_9 : decode cX6_link 9 = .ok (.iload_n 2, 1) := by decide +kernel
theorem dX6_link_10 : decode cX6_link 10 = .ok (.iload_n 3, 1) := by decide +kernel
theorem dX6_link_11 : decode cX6_link 11 = .ok (.invokestatic 118, 3) := by decide +kernel
theorem dX6_link_14 : decode cX6_link 14 = .ok (.istore 4, 2) := by decide +kernel
theorem dX6_link_16 : decode cX6_link 16 = .ok (.iload 4, 2) := by decide +kernel
theorem dX6_link_18 : decode cX6_link 18 = .ok (.ifCond .eq 6, 3) := by decide +kernel
theorem dX6_link_21 : decode cX6_link 21 = .ok (.iload 4, 2) := by decide +kernel
theorem dX6_link_23 : decode cX6_link 23 = .ok (.ireturn, 1) := by decide +kernel
theorem dX6_link_24 : decode cX6_link 24 = .ok (.aload_n 0, 1) := by decide +kernel
theorem dX6_link_25 : decode cX6_link 25 = .ok (.getfield 48, 3) := by decide +kernel
theorem dX6_link_28 : decode cX6_link 28 = .ok (.aload_n 0, 1) := by decide +kernel
theorem dX6_link_29 : decode cX6_link 29 = .ok (.getfield 10, 3) := by decide +kernel
theorem dX6_link_32 : decode cX6_link 32 = .ok (.invokevirtual 122, 3) := by decide +kernel
theorem dX6_link_35 : decode cX6_link 35 = .ok (.aload_n 0, 1) := by decide +kernel
theorem dX6_link_36 : decode cX6_link 36 = .ok (.getfield 10, 3) := by decide +kernel
theorem dX6_link_39 : decode cX6_link 39 = .ok (.iload_n 1, 1) := by decide +kernel
theorem dX6_link_40 : decode cX6_link 40 = .ok (.iload_n 2, 1) := by decide +kernel
theorem dX6_link_41 : decode cX6_link 41 = .ok (.iload_n 3, 1) := by decide +kernel
theorem dX6_link_42 : decode cX6_link 42 = .ok (.invokevirtual 125, 3) := by decide +kernel
theorem dX6_link_45 : decode cX6_link 45 = .ok (.aload_n 0, 1) := by decide +kernel
theorem dX6_link_46 : decode cX6_link 46 = .ok (.getfield 10, 3) := by decide +kernel
theorem dX6_link_49 : decode cX6_link 49 = .ok (.invokevirtual 91, 3) := by decide +kernel
theorem dX6_link_52 : decode cX6_link 52 = .ok (.ireturn, 1) := by decide +kernel
theorem dX6_cut_0 : decode cX6_cut 0 = .ok (.aload_n 0, 1) := by decide +kernel
theorem dX6_cut_1 : decode cX6_cut 1 = .ok (.getfield 10, 3) := by decide +kernel
theorem dX6_cut_4 : decode cX6_cut 4 = .ok (.iload_n 1, 1) := by decide +kernel
theorem dX6_cut_5 : decode cX6_cut 5 = .ok (.iload_n 2, 1) := by decide +kernel
theorem dX6_cut_6 : decode cX6_cut 6 = .ok (.invokestatic 129, 3) := by decide +kernel
theorem dX6_cut_9 : decode cX6_cut 9 = .ok (.istore_n 3, 1) := by decide +kernel
theorem dX6_cut_10 : decode cX6_cut 10 = .ok (.iload_n 3, 1) := by decide +kernel
theorem dX6_cut_11 : decode cX6_cut 11 = .ok (.ifCond .eq 5, 3) := by decide +kernel
theorem dX6_cut_14 : decode cX6_cut 14 = .ok (.iload_n 3, 1) := by decide +kernel
theorem dX6_cut_15 : decode cX6_cut 15 = .ok (.ireturn, 1) := by decide +kernel
theorem dX6_cut_16 : decode cX6_cut 16 = .ok (.aload_n 0, 1) := by decide +kernel
theorem dX6_cut_17 : decode cX6_cut 17 = .ok (.getfield 10, 3) := by decide +kernel
theorem dX6_cut_20 : decode cX6_cut 20 = .ok (.iload_n 1, 1) := by decide +kernel
theorem dX6_cut_21 : decode cX6_cut 21 = .ok (.iload_n 2, 1) := by decide +kernel
theorem dX6_cut_22 : decode cX6_cut 22 = .ok (.invokevirtual 108, 3) := by decide +kernel
theorem dX6_cut_25 : decode cX6_cut 25 = .ok (.istore 4, 2) := by decide +kernel
theorem dX6_cut_27 : decode cX6_cut 27 = .ok (.aload_n 0, 1) := by decide +kernel
theorem dX6_cut_28 : decode cX6_cut 28 = .ok (.getfield 48, 3) := by decide +kernel
theorem dX6_cut_31 : decode cX6_cut 31 = .ok (.aload_n 0, 1) := by decide +kernel
theorem dX6_cut_32 : decode cX6_cut 32 = .ok (.getfield 10, 3) := by decide +kernel
theorem dX6_cut_35 : decode cX6_cut 35 = .ok (.invokevirtual 122, 3) := by decide +kernel
theorem dX6_cut_38 : decode cX6_cut 38 = .ok (.aload_n 0, 1) := by decide +kernel
theorem dX6_cut_39 : decode cX6_cut 39 = .ok (.getfield 10, 3) := by decide +kernel
theorem dX6_cut_42 : decode cX6_cut 42 = .ok (.iload_n 1, 1) := by decide +kernel
theorem dX6_cut_43 : decode cX6_cut 43 = .ok (.iload_n 2, 1) := by decide +kernel
theorem dX6_cut_44 : decode cX6_cut 44 = .ok (.iconst 0, 1) := by decide +kernel
theorem dX6_cut_45 : decode cX6_cut 45 = .ok (.invokevirtual 125, 3) := by decide +kernel
theorem dX6_cut_48 : decode cX6_cut 48 = .ok (.iload 4, 2) := by decide +kernel
theorem dX6_cut_50 : decode cX6_cut 50 = .ok (.ireturn, 1) := by decide +kernel
theorem dX6_setEdgeWeight_0 : decode cX6_setEdgeWeight 0 = .ok (.aload_n 0, 1) := by decide +kernel
theorem dX6_setEdgeWeight_1 : decode cX6_setEdgeWeight 1 = .ok (.getfield 10, 3) := by decide +kernel
theorem dX6_setEdgeWeight_4 : decode cX6_setEdgeWeight 4 = .ok (.iload_n 1, 1) := by decide +kernel
theorem dX6_setEdgeWeight_5 : decode cX6_setEdgeWeight 5 = .ok (.iload_n 2, 1) := by decide +kernel
theorem dX6_setEdgeWeight_6 : decode cX6_setEdgeWeight 6 = .ok (.invokevirtual 101, 3) := by decide +kernel
theorem dX6_setEdgeWeight_9 : decode cX6_setEdgeWeight 9 = .ok (.ifCond .ne 5, 3) := by decide +kernel
theorem dX6_setEdgeWeight_12 : decode cX6_setEdgeWeight 12 = .ok (.iconst (-1), 1) := by decide +kernel
theorem dX6_setEdgeWeight_13 : decode cX6_setEdgeWeight 13 = .ok (.ireturn, 1) := by decide +kernel
theorem dX6_setEdgeWeight_14 : decode cX6_setEdgeWeight 14 = .ok (.iload_n 3, 1) := by decide +kernel
theorem dX6_setEdgeWeight_15 : decode cX6_setEdgeWeight 15 = .ok (.iconst 1, 1) := by decide +kernel
theorem dX6_setEdgeWeight_16 : decode cX6_setEdgeWeight 16 = .ok (.if_icmp .lt 9, 3) := by decide +kernel
theorem dX6_setEdgeWeight_19 : decode cX6_setEdgeWeight 19 = .ok (.iload_n 3, 1) := by decide +kernel
theorem dX6_setEdgeWeight_20 : decode cX6_setEdgeWeight 20 = .ok (.bipush 99, 2) := by decide +kernel
theorem dX6_setEdgeWeight_22 : decode cX6_setEdgeWeight 22 = .ok (.if_icmp .le 6, 3) := by decide +kernel
theorem dX6_setEdgeWeight_25 : decode cX6_setEdgeWeight 25 = .ok (.bipush (-2), 2) := by decide +kernel
theorem dX6_setEdgeWeight_27 : decode cX6_setEdgeWeight 27 = .ok (.ireturn, 1) := by decide +kernel
theorem dX6_setEdgeWeight_28 : decode cX6_setEdgeWeight 28 = .ok (.aload_n 0, 1) := by decide +kernel
theorem dX6_setEdgeWeight_29 : decode cX6_setEdgeWeight 29 = .ok (.getfield 10, 3) := by decide +kernel
theorem dX6_setEdgeWeight_32 : decode cX6_setEdgeWeight 32 = .ok (.iload_n 1, 1) := by decide +kernel
theorem dX6_setEdgeWeight_33 : decode cX6_setEdgeWeight 33 = .ok (.iload_n 2, 1) := by decide +kernel
theorem dX6_setEdgeWeight_34 : decode cX6_setEdgeWeight 34 = .ok (.invokevirtual 105, 3) := by decide +kernel
theorem dX6_setEdgeWeight_37 : decode cX6_setEdgeWeight 37 = .ok (.ifCond .ne 6, 3) := by decide +kernel
theorem dX6_setEdgeWeight_40 : decode cX6_setEdgeWeight 40 = .ok (.bipush (-3), 2) := by decide +kernel
theorem dX6_setEdgeWeight_42 : decode cX6_setEdgeWeight 42 = .ok (.ireturn, 1) := by decide +kernel
theorem dX6_setEdgeWeight_43 : decode cX6_setEdgeWeight 43 = .ok (.aload_n 0, 1) := by decide +kernel
theorem dX6_setEdgeWeight_44 : decode cX6_setEdgeWeight 44 = .ok (.getfield 10, 3) := by decide +kernel
theorem dX6_setEdgeWeight_47 : decode cX6_setEdgeWeight 47 = .ok (.iload_n 1, 1) := by decide +kernel
theorem dX6_setEdgeWeight_48 : decode cX6_setEdgeWeight 48 = .ok (.iload_n 2, 1) := by decide +kernel
theorem dX6_setEdgeWeight_49 : decode cX6_setEdgeWeight 49 = .ok (.invokevirtual 108, 3) := by decide +kernel
theorem dX6_setEdgeWeight_52 : decode cX6_setEdgeWeight 52 = .ok (.istore 4, 2) := by decide +kernel
theorem dX6_setEdgeWeight_54 : decode cX6_setEdgeWeight 54 = .ok (.aload_n 0, 1) := by decide +kernel
theorem dX6_setEdgeWeight_55 : decode cX6_setEdgeWeight 55 = .ok (.getfield 48, 3) := by decide +kernel
theorem dX6_setEdgeWeight_58 : decode cX6_setEdgeWeight 58 = .ok (.aload_n 0, 1) := by decide +kernel
theorem dX6_setEdgeWeight_59 : decode cX6_setEdgeWeight 59 = .ok (.getfield 10, 3) := by decide +kernel
theorem dX6_setEdgeWeight_62 : decode cX6_setEdgeWeight 62 = .ok (.invokevirtual 122, 3) := by decide +kernel
theorem dX6_setEdgeWeight_65 : decode cX6_setEdgeWeight 65 = .ok (.aload_n 0, 1) := by decide +kernel
theorem dX6_setEdgeWeight_66 : decode cX6_setEdgeWeight 66 = .ok (.getfield 10, 3) := by decide +kernel
theorem dX6_setEdgeWeight_69 : decode cX6_setEdgeWeight 69 = .ok (.iload_n 1, 1) := by decide +kernel
theorem dX6_setEdgeWeight_70 : decode cX6_setEdgeWeight 70 = .ok (.iload_n 2, 1) := by decide +kernel
theorem dX6_setEdgeWeight_71 : decode cX6_setEdgeWeight 71 = .ok (.iload_n 3, 1) := by decide +kernel
theorem dX6_setEdgeWeight_72 : decode cX6_setEdgeWeight 72 = .ok (.invokevirtual 125, 3) := by decide +kernel
theorem dX6_setEdgeWeight_75 : decode cX6_setEdgeWeight 75 = .ok (.iload 4, 2) := by decide +kernel
theorem dX6_setEdgeWeight_77 : decode cX6_setEdgeWeight 77 = .ok (.ireturn, 1) := by decide +kernel
theorem dX6_setVertexWeight_0 : decode cX6_setVertexWeight 0 = .ok (.aload_n 0, 1) := by decide +kernel
theorem dX6_setVertexWeight_1 : decode cX6_setVertexWeight 1 = .ok (.getfield 10, 3) := by decide +kernel
theorem dX6_setVertexWeight_4 : decode cX6_setVertexWeight 4 = .ok (.iload_n 1, 1) := by decide +kernel
theorem dX6_setVertexWeight_5 : decode cX6_setVertexWeight 5 = .ok (.invokevirtual 94, 3) := by decide +kernel
theorem dX6_setVertexWeight_8 : decode cX6_setVertexWeight 8 = .ok (.ifCond .ne 5, 3) := by decide +kernel
theorem dX6_setVertexWeight_11 : decode cX6_setVertexWeight 11 = .ok (.iconst (-1), 1) := by decide +kernel
theorem dX6_setVertexWeight_12 : decode cX6_setVertexWeight 12 = .ok (.ireturn, 1) := by decide +kernel
theorem dX6_setVertexWeight_13 : decode cX6_setVertexWeight 13 = .ok (.iload_n 2, 1) := by decide +kernel
theorem dX6_setVertexWeight_14 : decode cX6_setVertexWeight 14 = .ok (.ifCond .lt 9, 3) := by decide +kernel
theorem dX6_setVertexWeight_17 : decode cX6_setVertexWeight 17 = .ok (.iload_n 2, 1) := by decide +kernel
theorem dX6_setVertexWeight_18 : decode cX6_setVertexWeight 18 = .ok (.bipush 99, 2) := by decide +kernel
theorem dX6_setVertexWeight_20 : decode cX6_setVertexWeight 20 = .ok (.if_icmp .le 6, 3) := by decide +kernel
theorem dX6_setVertexWeight_23 : decode cX6_setVertexWeight 23 = .ok (.bipush (-2), 2) := by decide +kernel
theorem dX6_setVertexWeight_25 : decode cX6_setVertexWeight 25 = .ok (.ireturn, 1) := by decide +kernel
theorem dX6_setVertexWeight_26 : decode cX6_setVertexWeight 26 = .ok (.aload_n 0, 1) := by decide +kernel
theorem dX6_setVertexWeight_27 : decode cX6_setVertexWeight 27 = .ok (.getfield 10, 3) := by decide +kernel
theorem dX6_setVertexWeight_30 : decode cX6_setVertexWeight 30 = .ok (.iload_n 1, 1) := by decide +kernel
theorem dX6_setVertexWeight_31 : decode cX6_setVertexWeight 31 = .ok (.invokevirtual 97, 3) := by decide +kernel
theorem dX6_setVertexWeight_34 : decode cX6_setVertexWeight 34 = .ok (.istore_n 3, 1) := by decide +kernel
theorem dX6_setVertexWeight_35 : decode cX6_setVertexWeight 35 = .ok (.aload_n 0, 1) := by decide +kernel
theorem dX6_setVertexWeight_36 : decode cX6_setVertexWeight 36 = .ok (.getfield 48, 3) := by decide +kernel
theorem dX6_setVertexWeight_39 : decode cX6_setVertexWeight 39 = .ok (.aload_n 0, 1) := by decide +kernel
theorem dX6_setVertexWeight_40 : decode cX6_setVertexWeight 40 = .ok (.getfield 10, 3) := by decide +kernel
theorem dX6_setVertexWeight_43 : decode cX6_setVertexWeight 43 = .ok (.invokevirtual 122, 3) := by decide +kernel
theorem dX6_setVertexWeight_46 : decode cX6_setVertexWeight 46 = .ok (.aload_n 0, 1) := by decide +kernel
theorem dX6_setVertexWeight_47 : decode cX6_setVertexWeight 47 = .ok (.getfield 10, 3) := by decide +kernel
theorem dX6_setVertexWeight_50 : decode cX6_setVertexWeight 50 = .ok (.iload_n 1, 1) := by decide +kernel
theorem dX6_setVertexWeight_51 : decode cX6_setVertexWeight 51 = .ok (.iload_n 2, 1) := by decide +kernel
theorem dX6_setVertexWeight_52 : decode cX6_setVertexWeight 52 = .ok (.invokevirtual 133, 3) := by decide +kernel
theorem dX6_setVertexWeight_55 : decode cX6_setVertexWeight 55 = .ok (.iload_n 3, 1) := by decide +kernel
theorem dX6_setVertexWeight_56 : decode cX6_setVertexWeight 56 = .ok (.ireturn, 1) := by decide +kernel
theorem dX6_undo_0 : decode cX6_undo 0 = .ok (.aload_n 0, 1) := by decide +kernel
theorem dX6_undo_1 : decode cX6_undo 1 = .ok (.getfield 48, 3) := by decide +kernel
theorem dX6_undo_4 : decode cX6_undo 4 = .ok (.aload_n 0, 1) := by decide +kernel
theorem dX6_undo_5 : decode cX6_undo 5 = .ok (.getfield 10, 3) := by decide +kernel
theorem dX6_undo_8 : decode cX6_undo 8 = .ok (.invokevirtual 137, 3) := by decide +kernel
theorem dX6_undo_11 : decode cX6_undo 11 = .ok (.ifCond .eq 13, 3) := by decide +kernel
theorem dX6_undo_14 : decode cX6_undo 14 = .ok (.aload_n 0, 1) := by decide +kernel
theorem dX6_undo_15 : decode cX6_undo 15 = .ok (.getfield 48, 3) := by decide +kernel
theorem dX6_undo_18 : decode cX6_undo 18 = .ok (.invokevirtual 141, 3) := by decide +kernel
theorem dX6_undo_21 : decode cX6_undo 21 = .ok (.goto 5, 3) := by decide +kernel
theorem dX6_undo_24 : decode cX6_undo 24 = .ok (.bipush (-3), 2) := by decide +kernel
theorem dX6_undo_26 : decode cX6_undo 26 = .ok (.ireturn, 1) := by decide +kernel
theorem dX6_linkError_0 : decode cX6_linkError 0 = .ok (.aload_n 0, 1) := by decide +kernel
theorem dX6_linkError_1 : decode cX6_linkError 1 = .ok (.iload_n 2, 1) := by decide +kernel
theorem dX6_linkError_2 : decode cX6_linkError 2 = .ok (.iload_n 3, 1) := by decide +kernel
theorem dX6_linkError_3 : decode cX6_linkError 3 = .ok (.invokevirtual 101, 3) := by decide +kernel
theorem dX6_linkError_6 : decode cX6_linkError 6 = .ok (.ifCond .ne 5, 3) := by decide +kernel
theorem dX6_linkError_9 : decode cX6_linkError 9 = .ok (.iconst (-1), 1) := by decide +kernel
theorem dX6_linkError_10 : decode cX6_linkError 10 = .ok (.ireturn, 1) := by decide +kernel
theorem dX6_linkError_11 : decode cX6_linkError 11 = .ok (.iload 4, 2) := by decide +kernel
theorem dX6_linkError_13 : decode cX6_linkError 13 = .ok (.iconst 1, 1) := by decide +kernel
theorem dX6_linkError_14 : decode cX6_linkError 14 = .ok (.if_icmp .lt 10, 3) := by decide +kernel
theorem dX6_linkError_17 : decode cX6_linkError 17 = .ok (.iload 4, 2) := by decide +kernel
theorem dX6_linkError_19 : decode cX6_linkError 19 = .ok (.bipush 99, 2) := by decide +kernel
theorem dX6_linkError_21 : decode cX6_linkError 21 = .ok (.if_icmp .le 6, 3) := by decide +kernel
theorem dX6_linkError_24 : decode cX6_linkError 24 = .ok (.bipush (-2), 2) := by decide +kernel
theorem dX6_linkError_26 : decode cX6_linkError 26 = .ok (.ireturn, 1) := by decide +kernel
theorem dX6_linkError_27 : decode cX6_linkError 27 = .ok (.aload_n 1, 1) := by decide +kernel
theorem dX6_linkError_28 : decode cX6_linkError 28 = .ok (.invokevirtual 112, 3) := by decide +kernel
theorem dX6_linkError_31 : decode cX6_linkError 31 = .ok (.aload_n 1, 1) := by decide +kernel
theorem dX6_linkError_32 : decode cX6_linkError 32 = .ok (.iload_n 2, 1) := by decide +kernel
theorem dX6_linkError_33 : decode cX6_linkError 33 = .ok (.iload_n 3, 1) := by decide +kernel
theorem dX6_linkError_34 : decode cX6_linkError 34 = .ok (.invokevirtual 142, 3) := by decide +kernel
theorem dX6_linkError_37 : decode cX6_linkError 37 = .ok (.ifCond .eq 8, 3) := by decide +kernel
theorem dX6_linkError_40 : decode cX6_linkError 40 = .ok (.bipush (-3), 2) := by decide +kernel
theorem dX6_linkError_42 : decode cX6_linkError 42 = .ok (.goto 4, 3) := by decide +kernel
theorem dX6_linkError_45 : decode cX6_linkError 45 = .ok (.iconst 0, 1) := by decide +kernel
theorem dX6_linkError_46 : decode cX6_linkError 46 = .ok (.ireturn, 1) := by decide +kernel
theorem dX6_cutError_0 : decode cX6_cutError 0 = .ok (.aload_n 0, 1) := by decide +kernel
theorem dX6_cutError_1 : decode cX6_cutError 1 = .ok (.iload_n 1, 1) := by decide +kernel
theorem dX6_cutError_2 : decode cX6_cutError 2 = .ok (.iload_n 2, 1) := by decide +kernel
theorem dX6_cutError_3 : decode cX6_cutError 3 = .ok (.invokevirtual 101, 3) := by decide +kernel
theorem dX6_cutError_6 : decode cX6_cutError 6 = .ok (.ifCond .ne 5, 3) := by decide +kernel
theorem dX6_cutError_9 : decode cX6_cutError 9 = .ok (.iconst (-1), 1) := by decide +kernel
theorem dX6_cutError_10 : decode cX6_cutError 10 = .ok (.ireturn, 1) := by decide +kernel
theorem dX6_cutError_11 : decode cX6_cutError 11 = .ok (.aload_n 0, 1) := by decide +kernel
theorem dX6_cutError_12 : decode cX6_cutError 12 = .ok (.iload_n 1, 1) := by decide +kernel
theorem dX6_cutError_13 : decode cX6_cutError 13 = .ok (.iload_n 2, 1) := by decide +kernel
theorem dX6_cutError_14 : decode cX6_cutError 14 = .ok (.invokevirtual 105, 3) := by decide +kernel
theorem dX6_cutError_17 : decode cX6_cutError 17 = .ok (.ifCond .eq 7, 3) := by decide +kernel
theorem dX6_cutError_20 : decode cX6_cutError 20 = .ok (.iconst 0, 1) := by decide +kernel
theorem dX6_cutError_21 : decode cX6_cutError 21 = .ok (.goto 5, 3) := by decide +kernel
theorem dX6_cutError_24 : decode cX6_cutError 24 = .ok (.bipush (-3), 2) := by decide +kernel
theorem dX6_cutError_26 : decode cX6_cutError 26 = .ok (.ireturn, 1) := by decide +kernel
theorem dX6_distance_0 : decode cX6_distance 0 = .ok (.aload_n 0, 1) := by decide +kernel
theorem dX6_distance_1 : decode cX6_distance 1 = .ok (.getfield 10, 3) := by decide +kernel
theorem dX6_distance_4 : decode cX6_distance 4 = .ok (.iload_n 1, 1) := by decide +kernel
theorem dX6_distance_5 : decode cX6_distance 5 = .ok (.iload_n 2, 1) := by decide +kernel
theorem dX6_distance_6 : decode cX6_distance 6 = .ok (.invokevirtual 101, 3) := by decide +kernel
theorem dX6_distance_9 : decode cX6_distance 9 = .ok (.ifCond .ne 5, 3) := by decide +kernel
theorem dX6_distance_12 : decode cX6_distance 12 = .ok (.iconst (-1), 1) := by decide +kernel
theorem dX6_distance_13 : decode cX6_distance 13 = .ok (.ireturn, 1) := by decide +kernel
theorem dX6_distance_14 : decode cX6_distance 14 = .ok (.aload_n 0, 1) := by decide +kernel
theorem dX6_distance_15 : decode cX6_distance 15 = .ok (.getfield 21, 3) := by decide +kernel
theorem dX6_distance_18 : decode cX6_distance 18 = .ok (.invokevirtual 112, 3) := by decide +kernel
theorem dX6_distance_21 : decode cX6_distance 21 = .ok (.aload_n 0, 1) := by decide +kernel
theorem dX6_distance_22 : decode cX6_distance 22 = .ok (.getfield 21, 3) := by decide +kernel
theorem dX6_distance_25 : decode cX6_distance 25 = .ok (.iload_n 1, 1) := by decide +kernel
theorem dX6_distance_26 : decode cX6_distance 26 = .ok (.iload_n 2, 1) := by decide +kernel
theorem dX6_distance_27 : decode cX6_distance 27 = .ok (.invokevirtual 142, 3) := by decide +kernel
theorem dX6_distance_30 : decode cX6_distance 30 = .ok (.ifCond .eq 15, 3) := by decide +kernel
theorem dX6_distance_33 : decode cX6_distance 33 = .ok (.aload_n 0, 1) := by decide +kernel
theorem dX6_distance_34 : decode cX6_distance 34 = .ok (.getfield 21, 3) := by decide +kernel
theorem dX6_distance_37 : decode cX6_distance 37 = .ok (.iload_n 1, 1) := by decide +kernel
theorem dX6_distance_38 : decode cX6_distance 38 = .ok (.iload_n 2, 1) := by decide +kernel
theorem dX6_distance_39 : decode cX6_distance 39 = .ok (.invokevirtual 145, 3) := by decide +kernel
theorem dX6_distance_42 : decode cX6_distance 42 = .ok (.goto 5, 3) := by decide +kernel
theorem dX6_distance_45 : decode cX6_distance 45 = .ok (.bipush (-9), 2) := by decide +kernel
theorem dX6_distance_47 : decode cX6_distance 47 = .ok (.ireturn, 1) := by decide +kernel
theorem dX6_pathVertex_0 : decode cX6_pathVertex 0 = .ok (.aload_n 0, 1) := by decide +kernel
theorem dX6_pathVertex_1 : decode cX6_pathVertex 1 = .ok (.getfield 10, 3) := by decide +kernel
theorem dX6_pathVertex_4 : decode cX6_pathVertex 4 = .ok (.iload_n 1, 1) := by decide +kernel
theorem dX6_pathVertex_5 : decode cX6_pathVertex 5 = .ok (.iload_n 2, 1) := by decide +kernel
theorem dX6_pathVertex_6 : decode cX6_pathVertex 6 = .ok (.invokevirtual 101, 3) := by decide +kernel
theorem dX6_pathVertex_9 : decode cX6_pathVertex 9 = .ok (.ifCond .ne 5, 3) := by decide +kernel
theorem dX6_pathVertex_12 : decode cX6_pathVertex 12 = .ok (.iconst (-1), 1) := by decide +kernel
theorem dX6_pathVertex_13 : decode cX6_pathVertex 13 = .ok (.ireturn, 1) := by decide +kernel
theorem dX6_pathVertex_14 : decode cX6_pathVertex 14 = .ok (.iload_n 3, 1) := by decide +kernel
theorem dX6_pathVertex_15 : decode cX6_pathVertex 15 = .ok (.ifCond .ge 6, 3) := by decide +kernel
theorem dX6_pathVertex_18 : decode cX6_pathVertex 18 = .ok (.bipush (-2), 2) := by decide +kernel
theorem dX6_pathVertex_20 : decode cX6_pathVertex 20 = .ok (.ireturn, 1) := by decide +kernel
theorem dX6_pathVertex_21 : decode cX6_pathVertex 21 = .ok (.aload_n 0, 1) := by decide +kernel
theorem dX6_pathVertex_22 : decode cX6_pathVertex 22 = .ok (.getfield 21, 3) := by decide +kernel
theorem dX6_pathVertex_25 : decode cX6_pathVertex 25 = .ok (.invokevirtual 112, 3) := by decide +kernel
theorem dX6_pathVertex_28 : decode cX6_pathVertex 28 = .ok (.aload_n 0, 1) := by decide +kernel
theorem dX6_pathVertex_29 : decode cX6_pathVertex 29 = .ok (.getfield 21, 3) := by decide +kernel
theorem dX6_pathVertex_32 : decode cX6_pathVertex 32 = .ok (.iload_n 1, 1) := by decide +kernel
theorem dX6_pathVertex_33 : decode cX6_pathVertex 33 = .ok (.iload_n 2, 1) := by decide +kernel
theorem dX6_pathVertex_34 : decode cX6_pathVertex 34 = .ok (.iload_n 3, 1) := by decide +kernel
theorem dX6_pathVertex_35 : decode cX6_pathVertex 35 = .ok (.invokevirtual 148, 3) := by decide +kernel
theorem dX6_pathVertex_38 : decode cX6_pathVertex 38 = .ok (.ireturn, 1) := by decide +kernel
theorem dX6_eccentricity_0 : decode cX6_eccentricity 0 = .ok (.aload_n 0, 1) := by decide +kernel
theorem dX6_eccentricity_1 : decode cX6_eccentricity 1 = .ok (.getfield 10, 3) := by decide +kernel
theorem dX6_eccentricity_4 : decode cX6_eccentricity 4 = .ok (.iload_n 1, 1) := by decide +kernel
theorem dX6_eccentricity_5 : decode cX6_eccentricity 5 = .ok (.invokevirtual 94, 3) := by decide +kernel
theorem dX6_eccentricity_8 : decode cX6_eccentricity 8 = .ok (.ifCond .ne 5, 3) := by decide +kernel
theorem dX6_eccentricity_11 : decode cX6_eccentricity 11 = .ok (.iconst (-1), 1) := by decide +kernel
theorem dX6_eccentricity_12 : decode cX6_eccentricity 12 = .ok (.ireturn, 1) := by decide +kernel
theorem dX6_eccentricity_13 : decode cX6_eccentricity 13 = .ok (.aload_n 0, 1) := by decide +kernel
theorem dX6_eccentricity_14 : decode cX6_eccentricity 14 = .ok (.getfield 21, 3) := by decide +kernel
theorem dX6_eccentricity_17 : decode cX6_eccentricity 17 = .ok (.invokevirtual 112, 3) := by decide +kernel
theorem dX6_eccentricity_20 : decode cX6_eccentricity 20 = .ok (.aload_n 0, 1) := by decide +kernel
theorem dX6_eccentricity_21 : decode cX6_eccentricity 21 = .ok (.getfield 21, 3) := by decide +kernel
theorem dX6_eccentricity_24 : decode cX6_eccentricity 24 = .ok (.iload_n 1, 1) := by decide +kernel
theorem dX6_eccentricity_25 : decode cX6_eccentricity 25 = .ok (.invokevirtual 152, 3) := by decide +kernel
theorem dX6_eccentricity_28 : decode cX6_eccentricity 28 = .ok (.ireturn, 1) := by decide +kernel
theorem dX6_diameter_0 : decode cX6_diameter 0 = .ok (.aload_n 0, 1) := by decide +kernel
theorem dX6_diameter_1 : decode cX6_diameter 1 = .ok (.getfield 10, 3) := by decide +kernel
theorem dX6_diameter_4 : decode cX6_diameter 4 = .ok (.iload_n 1, 1) := by decide +kernel
theorem dX6_diameter_5 : decode cX6_diameter 5 = .ok (.invokevirtual 94, 3) := by decide +kernel
theorem dX6_diameter_8 : decode cX6_diameter 8 = .ok (.ifCond .ne 5, 3) := by decide +kernel
theorem dX6_diameter_11 : decode cX6_diameter 11 = .ok (.iconst (-1), 1) := by decide +kernel
theorem dX6_diameter_12 : decode cX6_diameter 12 = .ok (.ireturn, 1) := by decide +kernel
theorem dX6_diameter_13 : decode cX6_diameter 13 = .ok (.aload_n 0, 1) := by decide +kernel
theorem dX6_diameter_14 : decode cX6_diameter 14 = .ok (.getfield 21, 3) := by decide +kernel
theorem dX6_diameter_17 : decode cX6_diameter 17 = .ok (.invokevirtual 112, 3) := by decide +kernel
theorem dX6_diameter_20 : decode cX6_diameter 20 = .ok (.aload_n 0, 1) := by decide +kernel
theorem dX6_diameter_21 : decode cX6_diameter 21 = .ok (.getfield 21, 3) := by decide +kernel
theorem dX6_diameter_24 : decode cX6_diameter 24 = .ok (.iload_n 1, 1) := by decide +kernel
theorem dX6_diameter_25 : decode cX6_diameter 25 = .ok (.invokevirtual 155, 3) := by decide +kernel
theorem dX6_diameter_28 : decode cX6_diameter 28 = .ok (.ireturn, 1) := by decide +kernel
theorem dX6_diameterEnd_0 : decode cX6_diameterEnd 0 = .ok (.aload_n 0, 1) := by decide +kernel
theorem dX6_diameterEnd_1 : decode cX6_diameterEnd 1 = .ok (.getfield 10, 3) := by decide +kernel
theorem dX6_diameterEnd_4 : decode cX6_diameterEnd 4 = .ok (.iload_n 1, 1) := by decide +kernel
theorem dX6_diameterEnd_5 : decode cX6_diameterEnd 5 = .ok (.invokevirtual 94, 3) := by decide +kernel
theorem dX6_diameterEnd_8 : decode cX6_diameterEnd 8 = .ok (.ifCond .ne 5, 3) := by decide +kernel
theorem dX6_diameterEnd_11 : decode cX6_diameterEnd 11 = .ok (.iconst (-1), 1) := by decide +kernel
theorem dX6_diameterEnd_12 : decode cX6_diameterEnd 12 = .ok (.ireturn, 1) := by decide +kernel
theorem dX6_diameterEnd_13 : decode cX6_diameterEnd 13 = .ok (.iload_n 2, 1) := by decide +kernel
theorem dX6_diameterEnd_14 : decode cX6_diameterEnd 14 = .ok (.ifCond .eq 11, 3) := by decide +kernel
theorem dX6_diameterEnd_17 : decode cX6_diameterEnd 17 = .ok (.iload_n 2, 1) := by decide +kernel
theorem dX6_diameterEnd_18 : decode cX6_diameterEnd 18 = .ok (.iconst 1, 1) := by decide +kernel
theorem dX6_diameterEnd_19 : decode cX6_diameterEnd 19 = .ok (.if_icmp .eq 6, 3) := by decide +kernel
theorem dX6_diameterEnd_22 : decode cX6_diameterEnd 22 = .ok (.bipush (-2), 2) := by decide +kernel
theorem dX6_diameterEnd_24 : decode cX6_diameterEnd 24 = .ok (.ireturn, 1) := by decide +kernel
theorem dX6_diameterEnd_25 : decode cX6_diameterEnd 25 = .ok (.aload_n 0, 1) := by decide +kernel
theorem dX6_diameterEnd_26 : decode cX6_diameterEnd 26 = .ok (.getfield 21, 3) := by decide +kernel
theorem dX6_diameterEnd_29 : decode cX6_diameterEnd 29 = .ok (.invokevirtual 112, 3) := by decide +kernel
theorem dX6_diameterEnd_32 : decode cX6_diameterEnd 32 = .ok (.aload_n 0, 1) := by decide +kernel
theorem dX6_diameterEnd_33 : decode cX6_diameterEnd 33 = .ok (.getfield 21, 3) := by decide +kernel
theorem dX6_diameterEnd_36 : decode cX6_diameterEnd 36 = .ok (.iload_n 1, 1) := by decide +kernel
theorem dX6_diameterEnd_37 : decode cX6_diameterEnd 37 = .ok (.invokevirtual 158, 3) := by decide +kernel
theorem dX6_diameterEnd_40 : decode cX6_diameterEnd 40 = .ok (.istore_n 3, 1) := by decide +kernel
theorem dX6_diameterEnd_41 : decode cX6_diameterEnd 41 = .ok (.iload_n 2, 1) := by decide +kernel
theorem dX6_diameterEnd_42 : decode cX6_diameterEnd 42 = .ok (.ifCond .ne 7, 3) := by decide +kernel
theorem dX6_diameterEnd_45 : decode cX6_diameterEnd 45 = .ok (.iload_n 3, 1) := by decide +kernel
theorem dX6_diameterEnd_46 : decode cX6_diameterEnd 46 = .ok (.goto 11, 3) := by decide +kernel
theorem dX6_diameterEnd_49 : decode cX6_diameterEnd 49 = .ok (.aload_n 0, 1) := by decide +kernel
theorem dX6_diameterEnd_50 : decode cX6_diameterEnd 50 = .ok (.getfield 21, 3) := by decide +kernel
theorem dX6_diameterEnd_53 : decode cX6_diameterEnd 53 = .ok (.iload_n 3, 1) := by decide +kernel
theorem dX6_diameterEnd_54 : decode cX6_diameterEnd 54 = .ok (.invokevirtual 161, 3) := by decide +kernel
theorem dX6_diameterEnd_57 : decode cX6_diameterEnd 57 = .ok (.ireturn, 1) := by decide +kernel
theorem dX6_centre_0 : decode cX6_centre 0 = .ok (.aload_n 0, 1) := by decide +kernel
theorem dX6_centre_1 : decode cX6_centre 1 = .ok (.getfield 10, 3) := by decide +kernel
theorem dX6_centre_4 : decode cX6_centre 4 = .ok (.iload_n 1, 1) := by decide +kernel
theorem dX6_centre_5 : decode cX6_centre 5 = .ok (.invokevirtual 94, 3) := by decide +kernel
theorem dX6_centre_8 : decode cX6_centre 8 = .ok (.ifCond .ne 5, 3) := by decide +kernel
theorem dX6_centre_11 : decode cX6_centre 11 = .ok (.iconst (-1), 1) := by decide +kernel
theorem dX6_centre_12 : decode cX6_centre 12 = .ok (.ireturn, 1) := by decide +kernel
theorem dX6_centre_13 : decode cX6_centre 13 = .ok (.aload_n 0, 1) := by decide +kernel
theorem dX6_centre_14 : decode cX6_centre 14 = .ok (.getfield 21, 3) := by decide +kernel
theorem dX6_centre_17 : decode cX6_centre 17 = .ok (.invokevirtual 112, 3) := by decide +kernel
theorem dX6_centre_20 : decode cX6_centre 20 = .ok (.aload_n 0, 1) := by decide +kernel
theorem dX6_centre_21 : decode cX6_centre 21 = .ok (.getfield 21, 3) := by decide +kernel
theorem dX6_centre_24 : decode cX6_centre 24 = .ok (.iload_n 1, 1) := by decide +kernel
theorem dX6_centre_25 : decode cX6_centre 25 = .ok (.invokevirtual 164, 3) := by decide +kernel
theorem dX6_centre_28 : decode cX6_centre 28 = .ok (.ireturn, 1) := by decide +kernel
theorem dX6_median_0 : decode cX6_median 0 = .ok (.aload_n 0, 1) := by decide +kernel
theorem dX6_median_1 : decode cX6_median 1 = .ok (.getfield 10, 3) := by decide +kernel
theorem dX6_median_4 : decode cX6_median 4 = .ok (.iload_n 1, 1) := by decide +kernel
theorem dX6_median_5 : decode cX6_median 5 = .ok (.invokevirtual 94, 3) := by decide +kernel
theorem dX6_median_8 : decode cX6_median 8 = .ok (.ifCond .ne 5, 3) := by decide +kernel
theorem dX6_median_11 : decode cX6_median 11 = .ok (.iconst (-1), 1) := by decide +kernel
theorem dX6_median_12 : decode cX6_median 12 = .ok (.ireturn, 1) := by decide +kernel
theorem dX6_median_13 : decode cX6_median 13 = .ok (.aload_n 0, 1) := by decide +kernel
theorem dX6_median_14 : decode cX6_median 14 = .ok (.getfield 21, 3) := by decide +kernel
theorem dX6_median_17 : decode cX6_median 17 = .ok (.invokevirtual 112, 3) := by decide +kernel
theorem dX6_median_20 : decode cX6_median 20 = .ok (.aload_n 0, 1) := by decide +kernel
theorem dX6_median_21 : decode cX6_median 21 = .ok (.getfield 21, 3) := by decide +kernel
theorem dX6_median_24 : decode cX6_median 24 = .ok (.iload_n 1, 1) := by decide +kernel
theorem dX6_median_25 : decode cX6_median 25 = .ok (.invokevirtual 167, 3) := by decide +kernel
theorem dX6_median_28 : decode cX6_median 28 = .ok (.ireturn, 1) := by decide +kernel
theorem dX6_cost_0 : decode cX6_cost 0 = .ok (.aload_n 0, 1) := by decide +kernel
theorem dX6_cost_1 : decode cX6_cost 1 = .ok (.getfield 10, 3) := by decide +kernel
theorem dX6_cost_4 : decode cX6_cost 4 = .ok (.iload_n 1, 1) := by decide +kernel
theorem dX6_cost_5 : decode cX6_cost 5 = .ok (.invokevirtual 94, 3) := by decide +kernel
theorem dX6_cost_8 : decode cX6_cost 8 = .ok (.ifCond .ne 5, 3) := by decide +kernel
theorem dX6_cost_11 : decode cX6_cost 11 = .ok (.iconst (-1), 1) := by decide +kernel
theorem dX6_cost_12 : decode cX6_cost 12 = .ok (.ireturn, 1) := by decide +kernel
theorem dX6_cost_13 : decode cX6_cost 13 = .ok (.aload_n 0, 1) := by decide +kernel
theorem dX6_cost_14 : decode cX6_cost 14 = .ok (.getfield 21, 3) := by decide +kernel
theorem dX6_cost_17 : decode cX6_cost 17 = .ok (.invokevirtual 112, 3) := by decide +kernel
theorem dX6_cost_20 : decode cX6_cost 20 = .ok (.aload_n 0, 1) := by decide +kernel
theorem dX6_cost_21 : decode cX6_cost 21 = .ok (.getfield 21, 3) := by decide +kernel
theorem dX6_cost_24 : decode cX6_cost 24 = .ok (.iload_n 1, 1) := by decide +kernel
theorem dX6_cost_25 : decode cX6_cost 25 = .ok (.invokevirtual 170, 3) := by decide +kernel
theorem dX6_cost_28 : decode cX6_cost 28 = .ok (.ireturn, 1) := by decide +kernel
theorem dX6_meeting_0 : decode cX6_meeting 0 = .ok (.aload_n 0, 1) := by decide +kernel
theorem dX6_meeting_1 : decode cX6_meeting 1 = .ok (.getfield 10, 3) := by decide +kernel
theorem dX6_meeting_4 : decode cX6_meeting 4 = .ok (.iload_n 1, 1) := by decide +kernel
theorem dX6_meeting_5 : decode cX6_meeting 5 = .ok (.iload_n 2, 1) := by decide +kernel
theorem dX6_meeting_6 : decode cX6_meeting 6 = .ok (.invokevirtual 101, 3) := by decide +kernel
theorem dX6_meeting_9 : decode cX6_meeting 9 = .ok (.ifCond .eq 14, 3) := by decide +kernel
theorem dX6_meeting_12 : decode cX6_meeting 12 = .ok (.aload_n 0, 1) := by decide +kernel
theorem dX6_meeting_13 : decode cX6_meeting 13 = .ok (.getfield 10, 3) := by decide +kernel
theorem dX6_meeting_16 : decode cX6_meeting 16 = .ok (.iload_n 3, 1) := by decide +kernel
theorem dX6_meeting_17 : decode cX6_meeting 17 = .ok (.invokevirtual 94, 3) := by decide +kernel
theorem dX6_meeting_20 : decode cX6_meeting 20 = .ok (.ifCond .ne 5, 3) := by decide +kernel
theorem dX6_meeting_23 : decode cX6_meeting 23 = .ok (.iconst (-1), 1) := by decide +kernel
theorem dX6_meeting_24 : decode cX6_meeting 24 = .ok (.ireturn, 1) := by decide +kernel
theorem dX6_meeting_25 : decode cX6_meeting 25 = .ok (.aload_n 0, 1) := by decide +kernel
theorem dX6_meeting_26 : decode cX6_meeting 26 = .ok (.getfield 21, 3) := by decide +kernel
theorem dX6_meeting_29 : decode cX6_meeting 29 = .ok (.invokevirtual 112, 3) := by decide +kernel
theorem dX6_meeting_32 : decode cX6_meeting 32 = .ok (.aload_n 0, 1) := by decide +kernel
theorem dX6_meeting_33 : decode cX6_meeting 33 = .ok (.getfield 21, 3) := by decide +kernel
theorem dX6_meeting_36 : decode cX6_meeting 36 = .ok (.iload_n 1, 1) := by decide +kernel
theorem dX6_meeting_37 : decode cX6_meeting 37 = .ok (.iload_n 2, 1) := by decide +kernel
theorem dX6_meeting_38 : decode cX6_meeting 38 = .ok (.iload_n 3, 1) := by decide +kernel
theorem dX6_meeting_39 : decode cX6_meeting 39 = .ok (.invokevirtual 173, 3) := by decide +kernel
theorem dX6_meeting_42 : decode cX6_meeting 42 = .ok (.ireturn, 1) := by decide +kernel
theorem dX6_rounds_0 : decode cX6_rounds 0 = .ok (.aload_n 0, 1) := by decide +kernel
theorem dX6_rounds_1 : decode cX6_rounds 1 = .ok (.getfield 10, 3) := by decide +kernel
theorem dX6_rounds_4 : decode cX6_rounds 4 = .ok (.iload_n 1, 1) := by decide +kernel
theorem dX6_rounds_5 : decode cX6_rounds 5 = .ok (.invokevirtual 94, 3) := by decide +kernel
theorem dX6_rounds_8 : decode cX6_rounds 8 = .ok (.ifCond .ne 5, 3) := by decide +kernel
theorem dX6_rounds_11 : decode cX6_rounds 11 = .ok (.iconst (-1), 1) := by decide +kernel
theorem dX6_rounds_12 : decode cX6_rounds 12 = .ok (.ireturn, 1) := by decide +kernel
theorem dX6_rounds_13 : decode cX6_rounds 13 = .ok (.aload_n 0, 1) := by decide +kernel
theorem dX6_rounds_14 : decode cX6_rounds 14 = .ok (.getfield 34, 3) := by decide +kernel
theorem dX6_rounds_17 : decode cX6_rounds 17 = .ok (.aload_n 0, 1) := by decide +kernel
theorem dX6_rounds_18 : decode cX6_rounds 18 = .ok (.getfield 10, 3) := by decide +kernel
theorem dX6_rounds_21 : decode cX6_rounds 21 = .ok (.iload_n 1, 1) := by decide +kernel
theorem dX6_rounds_22 : decode cX6_rounds 22 = .ok (.invokevirtual 176, 3) := by decide +kernel
theorem dX6_rounds_25 : decode cX6_rounds 25 = .ok (.aload_n 0, 1) := by decide +kernel
theorem dX6_rounds_26 : decode cX6_rounds 26 = .ok (.getfield 34, 3) := by decide +kernel
theorem dX6_rounds_29 : decode cX6_rounds 29 = .ok (.invokevirtual 180, 3) := by decide +kernel
theorem dX6_rounds_32 : decode cX6_rounds 32 = .ok (.ireturn, 1) := by decide +kernel
theorem dX6_removalRound_0 : decode cX6_removalRound 0 = .ok (.aload_n 0, 1) := by decide +kernel
theorem dX6_removalRound_1 : decode cX6_removalRound 1 = .ok (.getfield 10, 3) := by decide +kernel
theorem dX6_removalRound_4 : decode cX6_removalRound 4 = .ok (.iload_n 1, 1) := by decide +kernel
theorem dX6_removalRound_5 : decode cX6_removalRound 5 = .ok (.invokevirtual 94, 3) := by decide +kernel
theorem dX6_removalRound_8 : decode cX6_removalRound 8 = .ok (.ifCond .ne 5, 3) := by decide +kernel
theorem dX6_removalRound_11 : decode cX6_removalRound 11 = .ok (.iconst (-1), 1) := by decide +kernel
theorem dX6_removalRound_12 : decode cX6_removalRound 12 = .ok (.ireturn, 1) := by decide +kernel
theorem dX6_removalRound_13 : decode cX6_removalRound 13 = .ok (.aload_n 0, 1) := by decide +kernel
theorem dX6_removalRound_14 : decode cX6_removalRound 14 = .ok (.getfield 34, 3) := by decide +kernel
theorem dX6_removalRound_17 : decode cX6_removalRound 17 = .ok (.aload_n 0, 1) := by decide +kernel
theorem dX6_removalRound_18 : decode cX6_removalRound 18 = .ok (.getfield 10, 3) := by decide +kernel
theorem dX6_removalRound_21 : decode cX6_removalRound 21 = .ok (.iload_n 1, 1) := by decide +kernel
theorem dX6_removalRound_22 : decode cX6_removalRound 22 = .ok (.invokevirtual 176, 3) := by decide +kernel
theorem dX6_removalRound_25 : decode cX6_removalRound 25 = .ok (.aload_n 0, 1) := by decide +kernel
theorem dX6_removalRound_26 : decode cX6_removalRound 26 = .ok (.getfield 34, 3) := by decide +kernel
theorem dX6_removalRound_29 : decode cX6_removalRound 29 = .ok (.iload_n 1, 1) := by decide +kernel
theorem dX6_removalRound_30 : decode cX6_removalRound 30 = .ok (.invokevirtual 183, 3) := by decide +kernel
theorem dX6_removalRound_33 : decode cX6_removalRound 33 = .ok (.ireturn, 1) := by decide +kernel
theorem dX6_survivor_0 : decode cX6_survivor 0 = .ok (.aload_n 0, 1) := by decide +kernel
theorem dX6_survivor_1 : decode cX6_survivor 1 = .ok (.getfield 10, 3) := by decide +kernel
theorem dX6_survivor_4 : decode cX6_survivor 4 = .ok (.iload_n 1, 1) := by decide +kernel
theorem dX6_survivor_5 : decode cX6_survivor 5 = .ok (.invokevirtual 94, 3) := by decide +kernel
theorem dX6_survivor_8 : decode cX6_survivor 8 = .ok (.ifCond .ne 5, 3) := by decide +kernel
theorem dX6_survivor_11 : decode cX6_survivor 11 = .ok (.iconst (-1), 1) := by decide +kernel
theorem dX6_survivor_12 : decode cX6_survivor 12 = .ok (.ireturn, 1) := by decide +kernel
theorem dX6_survivor_13 : decode cX6_survivor 13 = .ok (.aload_n 0, 1) := by decide +kernel
theorem dX6_survivor_14 : decode cX6_survivor 14 = .ok (.getfield 34, 3) := by decide +kernel
theorem dX6_survivor_17 : decode cX6_survivor 17 = .ok (.aload_n 0, 1) := by decide +kernel
theorem dX6_survivor_18 : decode cX6_survivor 18 = .ok (.getfield 10, 3) := by decide +kernel
theorem dX6_survivor_21 : decode cX6_survivor 21 = .ok (.iload_n 1, 1) := by decide +kernel
theorem dX6_survivor_22 : decode cX6_survivor 22 = .ok (.invokevirtual 176, 3) := by decide +kernel
theorem dX6_survivor_25 : decode cX6_survivor 25 = .ok (.aload_n 0, 1) := by decide +kernel
theorem dX6_survivor_26 : decode cX6_survivor 26 = .ok (.getfield 34, 3) := by decide +kernel
theorem dX6_survivor_29 : decode cX6_survivor 29 = .ok (.invokevirtual 186, 3) := by decide +kernel
theorem dX6_survivor_32 : decode cX6_survivor 32 = .ok (.ireturn, 1) := by decide +kernel
theorem dX6_balancedCut_0 : decode cX6_balancedCut 0 = .ok (.aload_n 0, 1) := by decide +kernel
theorem dX6_balancedCut_1 : decode cX6_balancedCut 1 = .ok (.getfield 10, 3) := by decide +kernel
theorem dX6_balancedCut_4 : decode cX6_balancedCut 4 = .ok (.iload_n 1, 1) := by decide +kernel
theorem dX6_balancedCut_5 : decode cX6_balancedCut 5 = .ok (.invokevirtual 94, 3) := by decide +kernel
theorem dX6_balancedCut_8 : decode cX6_balancedCut 8 = .ok (.ifCond .ne 5, 3) := by decide +kernel
theorem dX6_balancedCut_11 : decode cX6_balancedCut 11 = .ok (.iconst (-1), 1) := by decide +kernel
theorem dX6_balancedCut_12 : decode cX6_balancedCut 12 = .ok (.ireturn, 1) := by decide +kernel
theorem dX6_balancedCut_13 : decode cX6_balancedCut 13 = .ok (.aload_n 0, 1) := by decide +kernel
theorem dX6_balancedCut_14 : decode cX6_balancedCut 14 = .ok (.getfield 21, 3) := by decide +kernel
theorem dX6_balancedCut_17 : decode cX6_balancedCut 17 = .ok (.invokevirtual 112, 3) := by decide +kernel
theorem dX6_balancedCut_20 : decode cX6_balancedCut 20 = .ok (.aload_n 0, 1) := by decide +kernel
theorem dX6_balancedCut_21 : decode cX6_balancedCut 21 = .ok (.getfield 21, 3) := by decide +kernel
theorem dX6_balancedCut_24 : decode cX6_balancedCut 24 = .ok (.iload_n 1, 1) := by decide +kernel
theorem dX6_balancedCut_25 : decode cX6_balancedCut 25 = .ok (.invokevirtual 189, 3) := by decide +kernel
theorem dX6_balancedCut_28 : decode cX6_balancedCut 28 = .ok (.ireturn, 1) := by decide +kernel
theorem dX6_expectedReach_0 : decode cX6_expectedReach 0 = .ok (.aload_n 0, 1) := by decide +kernel
theorem dX6_expectedReach_1 : decode cX6_expectedReach 1 = .ok (.getfield 10, 3) := by decide +kernel
theorem dX6_expectedReach_4 : decode cX6_expectedReach 4 = .ok (.iload_n 1, 1) := by decide +kernel
theorem dX6_expectedReach_5 : decode cX6_expectedReach 5 = .ok (.invokevirtual 94, 3) := by decide +kernel
theorem dX6_expectedReach_8 : decode cX6_expectedReach 8 = .ok (.ifCond .ne 7, 3) := by decide +kernel
theorem dX6_expectedReach_11 : decode cX6_expectedReach 11 = .ok (.ldc2_w 192, 3) := by decide +kernel
theorem dX6_expectedReach_14 : decode cX6_expectedReach 14 = .ok (.lreturn, 1) := by decide +kernel
theorem dX6_expectedReach_15 : decode cX6_expectedReach 15 = .ok (.iload_n 2, 1) := by decide +kernel
theorem dX6_expectedReach_16 : decode cX6_expectedReach 16 = .ok (.ifCond .lt 9, 3) := by decide +kernel
theorem dX6_expectedReach_19 : decode cX6_expectedReach 19 = .ok (.iload_n 2, 1) := by decide +kernel
theorem dX6_expectedReach_20 : decode cX6_expectedReach 20 = .ok (.bipush 10, 2) := by decide +kernel
theorem dX6_expectedReach_22 : decode cX6_expectedReach 22 = .ok (.if_icmp .le 7, 3) := by decide +kernel
theorem dX6_expectedReach_25 : decode cX6_expectedReach 25 = .ok (.ldc2_w 194, 3) := by decide +kernel
theorem dX6_expectedReach_28 : decode cX6_expectedReach 28 = .ok (.lreturn, 1) := by decide +kernel
theorem dX6_expectedReach_29 : decode cX6_expectedReach 29 = .ok (.aload_n 0, 1) := by decide +kernel
theorem dX6_expectedReach_30 : decode cX6_expectedReach 30 = .ok (.getfield 21, 3) := by decide +kernel
theorem dX6_expectedReach_33 : decode cX6_expectedReach 33 = .ok (.invokevirtual 112, 3) := by decide +kernel
theorem dX6_expectedReach_36 : decode cX6_expectedReach 36 = .ok (.aload_n 0, 1) := by decide +kernel
theorem dX6_expectedReach_37 : decode cX6_expectedReach 37 = .ok (.getfield 21, 3) := by decide +kernel
theorem dX6_expectedReach_40 : decode cX6_expectedReach 40 = .ok (.iload_n 1, 1) := by decide +kernel
theorem dX6_expectedReach_41 : decode cX6_expectedReach 41 = .ok (.bipush 10, 2) := by decide +kernel
theorem dX6_expectedReach_43 : decode cX6_expectedReach 43 = .ok (.iload_n 2, 1) := by decide +kernel
theorem dX6_expectedReach_44 : decode cX6_expectedReach 44 = .ok (.isub, 1) := by decide +kernel
theorem dX6_expectedReach_45 : decode cX6_expectedReach 45 = .ok (.invokevirtual 196, 3) := by decide +kernel
theorem dX6_expectedReach_48 : decode cX6_expectedReach 48 = .ok (.lreturn, 1) := by decide +kernel
theorem dX6_observe_0 : decode cX6_observe 0 = .ok (.iload_n 1, 1) := by decide +kernel
theorem dX6_observe_1 : decode cX6_observe 1 = .ok (.ifCond .lt 19, 3) := by decide +kernel
theorem dX6_observe_4 : decode cX6_observe 4 = .ok (.iload_n 1, 1) := by decide +kernel
theorem dX6_observe_5 : decode cX6_observe 5 = .ok (.bipush 12, 2) := by decide +kernel
theorem dX6_observe_7 : decode cX6_observe 7 = .ok (.if_icmp .ge 13, 3) := by decide +kernel
theorem dX6_observe_10 : decode cX6_observe 10 = .ok (.iload_n 2, 1) := by decide +kernel
theorem dX6_observe_11 : decode cX6_observe 11 = .ok (.ifCond .lt 9, 3) := by decide +kernel
theorem dX6_observe_14 : decode cX6_observe 14 = .ok (.iload_n 2, 1) := by decide +kernel
theorem dX6_observe_15 : decode cX6_observe 15 = .ok (.bipush 12, 2) := by decide +kernel
theorem dX6_observe_17 : decode cX6_observe 17 = .ok (.if_icmp .lt 6, 3) := by decide +kernel
theorem dX6_observe_20 : decode cX6_observe 20 = .ok (.bipush (-2), 2) := by decide +kernel
theorem dX6_observe_22 : decode cX6_observe 22 = .ok (.ireturn, 1) := by decide +kernel
theorem dX6_observe_23 : decode cX6_observe 23 = .ok (.iload_n 3, 1) := by decide +kernel
theorem dX6_observe_24 : decode cX6_observe 24 = .ok (.ifCond .lt 10, 3) := by decide +kernel
theorem dX6_observe_27 : decode cX6_observe 27 = .ok (.iload_n 3, 1) := by decide +kernel
theorem dX6_observe_28 : decode cX6_observe 28 = .ok (.sipush 999, 3) := by decide +kernel
theorem dX6_observe_31 : decode cX6_observe 31 = .ok (.if_icmp .le 6, 3) := by decide +kernel
theorem dX6_observe_34 : decode cX6_observe 34 = .ok (.bipush (-2), 2) := by decide +kernel
theorem dX6_observe_36 : decode cX6_observe 36 = .ok (.ireturn, 1) := by decide +kernel
theorem dX6_observe_37 : decode cX6_observe 37 = .ok (.aload_n 0, 1) := by decide +kernel
theorem dX6_observe_38 : decode cX6_observe 38 = .ok (.getfield 55, 3) := by decide +kernel
theorem dX6_observe_41 : decode cX6_observe 41 = .ok (.iload_n 1, 1) := by decide +kernel
theorem dX6_observe_42 : decode cX6_observe 42 = .ok (.iload_n 2, 1) := by decide +kernel
theorem dX6_observe_43 : decode cX6_observe 43 = .ok (.iload_n 3, 1) := by decide +kernel
theorem dX6_observe_44 : decode cX6_observe 44 = .ok (.invokevirtual 200, 3) := by decide +kernel
theorem dX6_observe_47 : decode cX6_observe 47 = .ok (.ireturn, 1) := by decide +kernel
theorem dX6_possibleWeights_0 : decode cX6_possibleWeights 0 = .ok (.aload_n 0, 1) := by decide +kernel
theorem dX6_possibleWeights_1 : decode cX6_possibleWeights 1 = .ok (.getfield 10, 3) := by decide +kernel
theorem dX6_possibleWeights_4 : decode cX6_possibleWeights 4 = .ok (.iload_n 1, 1) := by decide +kernel
theorem dX6_possibleWeights_5 : decode cX6_possibleWeights 5 = .ok (.iload_n 2, 1) := by decide +kernel
theorem dX6_possibleWeights_6 : decode cX6_possibleWeights 6 = .ok (.invokevirtual 101, 3) := by decide +kernel
theorem dX6_possibleWeights_9 : decode cX6_possibleWeights 9 = .ok (.ifCond .ne 5, 3) := by decide +kernel
theorem dX6_possibleWeights_12 : decode cX6_possibleWeights 12 = .ok (.iconst (-1), 1) := by decide +kernel
theorem dX6_possibleWeights_13 : decode cX6_possibleWeights 13 = .ok (.ireturn, 1) := by decide +kernel
theorem dX6_possibleWeights_14 : decode cX6_possibleWeights 14 = .ok (.aload_n 0, 1) := by decide +kernel
theorem dX6_possibleWeights_15 : decode cX6_possibleWeights 15 = .ok (.getfield 10, 3) := by decide +kernel
theorem dX6_possibleWeights_18 : decode cX6_possibleWeights 18 = .ok (.iload_n 1, 1) := by decide +kernel
theorem dX6_possibleWeights_19 : decode cX6_possibleWeights 19 = .ok (.iload_n 2, 1) := by decide +kernel
theorem dX6_possibleWeights_20 : decode cX6_possibleWeights 20 = .ok (.invokevirtual 105, 3) := by decide +kernel
theorem dX6_possibleWeights_23 : decode cX6_possibleWeights 23 = .ok (.ifCond .ne 6, 3) := by decide +kernel
theorem dX6_possibleWeights_26 : decode cX6_possibleWeights 26 = .ok (.bipush (-3), 2) := by decide +kernel
theorem dX6_possibleWeights_28 : decode cX6_possibleWeights 28 = .ok (.ireturn, 1) := by decide +kernel
theorem dX6_possibleWeights_29 : decode cX6_possibleWeights 29 = .ok (.aload_n 0, 1) := by decide +kernel
theorem dX6_possibleWeights_30 : decode cX6_possibleWeights 30 = .ok (.getfield 21, 3) := by decide +kernel
theorem dX6_possibleWeights_33 : decode cX6_possibleWeights 33 = .ok (.invokevirtual 112, 3) := by decide +kernel
theorem dX6_possibleWeights_36 : decode cX6_possibleWeights 36 = .ok (.aload_n 0, 1) := by decide +kernel
theorem dX6_possibleWeights_37 : decode cX6_possibleWeights 37 = .ok (.getfield 55, 3) := by decide +kernel
theorem dX6_possibleWeights_40 : decode cX6_possibleWeights 40 = .ok (.aload_n 0, 1) := by decide +kernel
theorem dX6_possibleWeights_41 : decode cX6_possibleWeights 41 = .ok (.getfield 21, 3) := by decide +kernel
theorem dX6_possibleWeights_44 : decode cX6_possibleWeights 44 = .ok (.iload_n 1, 1) := by decide +kernel
theorem dX6_possibleWeights_45 : decode cX6_possibleWeights 45 = .ok (.iload_n 2, 1) := by decide +kernel
theorem dX6_possibleWeights_46 : decode cX6_possibleWeights 46 = .ok (.invokevirtual 203, 3) := by decide +kernel
theorem dX6_possibleWeights_49 : decode cX6_possibleWeights 49 = .ok (.ireturn, 1) := by decide +kernel
theorem dX6_runScript_0 : decode cX6_runScript 0 = .ok (.iload_n 1, 1) := by decide +kernel
theorem dX6_runScript_1 : decode cX6_runScript 1 = .ok (.iconst 1, 1) := by decide +kernel
theorem dX6_runScript_2 : decode cX6_runScript 2 = .ok (.if_icmp .lt 14, 3) := by decide +kernel
theorem dX6_runScript_5 : decode cX6_runScript 5 = .ok (.iload_n 1, 1) := by decide +kernel
theorem dX6_runScript_6 : decode cX6_runScript 6 = .ok (.iconst 3, 1) := by decide +kernel
theorem dX6_runScript_7 : decode cX6_runScript 7 = .ok (.if_icmp .gt 9, 3) := by decide +kernel
theorem dX6_runScript_10 : decode cX6_runScript 10 = .ok (.lload_n 2, 1) := by decide +kernel
theorem dX6_runScript_11 : decode cX6_runScript 11 = .ok (.lconst 0, 1) := by decide +kernel
theorem dX6_runScript_12 : decode cX6_runScript 12 = .ok (.lcmp, 1) := by decide +kernel
theorem dX6_runScript_13 : decode cX6_runScript 13 = .ok (.ifCond .ge 6, 3) := by decide +kernel
theorem dX6_runScript_16 : decode cX6_runScript 16 = .ok (.bipush (-2), 2) := by decide +kernel
theorem dX6_runScript_18 : decode cX6_runScript 18 = .ok (.ireturn, 1) := by decide +kernel
theorem dX6_runScript_19 : decode cX6_runScript 19 = .ok (.lconst 1, 1) := by decide +kernel
theorem dX6_runScript_20 : decode cX6_runScript 20 = .ok (.lstore 4, 2) := by decide +kernel
theorem dX6_runScript_22 : decode cX6_runScript 22 = .ok (.iconst 0, 1) := by decide +kernel
theorem dX6_runScript_23 : decode cX6_runScript 23 = .ok (.istore 6, 2) := by decide +kernel
theorem dX6_runScript_25 : decode cX6_runScript 25 = .ok (.iload 6, 2) := by decide +kernel
theorem dX6_runScript_27 : decode cX6_runScript 27 = .ok (.iload_n 1, 1) := by decide +kernel
theorem dX6_runScript_28 : decode cX6_runScript 28 = .ok (.if_icmp .ge 17, 3) := by decide +kernel
theorem dX6_runScript_31 : decode cX6_runScript 31 = .ok (.lload 4, 2) := by decide +kernel
theorem dX6_runScript_33 : decode cX6_runScript 33 = .ok (.ldc2_w 207, 3) := by decide +kernel
theorem dX6_runScript_36 : decode cX6_runScript 36 = .ok (.lmul, 1) := by decide +kernel
theorem dX6_runScript_37 : decode cX6_runScript 37 = .ok (.lstore 4, 2) := by decide +kernel
theorem dX6_runScript_39 : decode cX6_runScript 39 = .ok (.iinc 6 1, 3) := by decide +kernel
theorem dX6_runScript_42 : decode cX6_runScript 42 = .ok (.goto (-17), 3) := by decide +kernel
theorem dX6_runScript_45 : decode cX6_runScript 45 = .ok (.lload_n 2, 1) := by decide +kernel
theorem dX6_runScript_46 : decode cX6_runScript 46 = .ok (.lload 4, 2) := by decide +kernel
theorem dX6_runScript_48 : decode cX6_runScript 48 = .ok (.lcmp, 1) := by decide +kernel
theorem dX6_runScript_49 : decode cX6_runScript 49 = .ok (.ifCond .lt 6, 3) := by decide +kernel
theorem dX6_runScript_52 : decode cX6_runScript 52 = .ok (.bipush (-2), 2) := by decide +kernel
theorem dX6_runScript_54 : decode cX6_runScript 54 = .ok (.ireturn, 1) := by decide +kernel
theorem dX6_runScript_55 : decode cX6_runScript 55 = .ok (.aload_n 0, 1) := by decide +kernel
theorem dX6_runScript_56 : decode cX6_runScript 56 = .ok (.getfield 25, 3) := by decide +kernel
theorem dX6_runScript_59 : decode cX6_runScript 59 = .ok (.aload_n 0, 1) := by decide +kernel
theorem dX6_runScript_60 : decode cX6_runScript 60 = .ok (.getfield 10, 3) := by decide +kernel
theorem dX6_runScript_63 : decode cX6_runScript 63 = .ok (.invokevirtual 82, 3) := by decide +kernel
theorem dX6_runScript_66 : decode cX6_runScript 66 = .ok (.iconst 0, 1) := by decide +kernel
theorem dX6_runScript_67 : decode cX6_runScript 67 = .ok (.istore 6, 2) := by decide +kernel
theorem dX6_runScript_69 : decode cX6_runScript 69 = .ok (.iload 6, 2) := by decide +kernel
theorem dX6_runScript_71 : decode cX6_runScript 71 = .ok (.iload_n 1, 1) := by decide +kernel
theorem dX6_runScript_72 : decode cX6_runScript 72 = .ok (.if_icmp .ge 43, 3) := by decide +kernel
theorem dX6_runScript_75 : decode cX6_runScript 75 = .ok (.lload 4, 2) := by decide +kernel
theorem dX6_runScript_77 : decode cX6_runScript 77 = .ok (.ldc2_w 207, 3) := by decide +kernel
theorem dX6_runScript_80 : decode cX6_runScript 80 = .ok (.ldiv, 1) := by decide +kernel
theorem dX6_runScript_81 : decode cX6_runScript 81 = .ok (.lstore 4, 2) := by decide +kernel
theorem dX6_runScript_83 : decode cX6_runScript 83 = .ok (.lload 4, 2) := by decide +kernel
theorem dX6_runScript_85 : decode cX6_runScript 85 = .ok (.lconst 1, 1) := by decide +kernel
theorem dX6_runScript_86 : decode cX6_runScript 86 = .ok (.lcmp, 1) := by decide +kernel
theorem dX6_runScript_87 : decode cX6_runScript 87 = .ok (.ifCond .lt 19, 3) := by decide +kernel
theorem dX6_runScript_90 : decode cX6_runScript 90 = .ok (.aload_n 0, 1) := by decide +kernel
theorem dX6_runScript_91 : decode cX6_runScript 91 = .ok (.lload_n 2, 1) := by decide +kernel
theorem dX6_runScript_92 : decode cX6_runScript 92 = .ok (.lload 4, 2) := by decide +kernel
theorem dX6_runScript_94 : decode cX6_runScript 94 = .ok (.ldiv, 1) := by decide +kernel
theorem dX6_runScript_95 : decode cX6_runScript 95 = .ok (.ldc2_w 207, 3) := by decide +kernel
theorem dX6_runScript_98 : decode cX6_runScript 98 = .ok (.lrem, 1) := by decide +kernel
theorem dX6_runScript_99 : decode cX6_runScript 99 = .ok (.l2i, 1) := by decide +kernel
theorem dX6_runScript_100 : decode cX6_runScript 100 = .ok (.invokevirtual 209, 3) := by decide +kernel
theorem dX6_runScript_103 : decode cX6_runScript 103 = .ok (.ifCond .ne 6, 3) := by decide +kernel
theorem dX6_runScript_106 : decode cX6_runScript 106 = .ok (.iload 6, 2) := by decide +kernel
theorem dX6_runScript_108 : decode cX6_runScript 108 = .ok (.ireturn, 1) := by decide +kernel
theorem dX6_runScript_109 : decode cX6_runScript 109 = .ok (.iinc 6 1, 3) := by decide +kernel
theorem dX6_runScript_112 : decode cX6_runScript 112 = .ok (.goto (-43), 3) := by decide +kernel
theorem dX6_runScript_115 : decode cX6_runScript 115 = .ok (.bipush (-9), 2) := by decide +kernel
theorem dX6_runScript_117 : decode cX6_runScript 117 = .ok (.ireturn, 1) := by decide +kernel
theorem dX6_obeys_0 : decode cX6_obeys 0 = .ok (.iload_n 1, 1) := by decide +kernel
theorem dX6_obeys_1 : decode cX6_obeys 1 = .ok (.bipush 100, 2) := by decide +kernel
theorem dX6_obeys_3 : decode cX6_obeys 3 = .ok (.idiv, 1) := by decide +kernel
theorem dX6_obeys_4 : decode cX6_obeys 4 = .ok (.bipush 100, 2) := by decide +kernel
theorem dX6_obeys_6 : decode cX6_obeys 6 = .ok (.irem, 1) := by decide +kernel
theorem dX6_obeys_7 : decode cX6_obeys 7 = .ok (.istore_n 2, 1) := by decide +kernel
theorem dX6_obeys_8 : decode cX6_obeys 8 = .ok (.iload_n 1, 1) := by decide +kernel
theorem dX6_obeys_9 : decode cX6_obeys 9 = .ok (.bipush 100, 2) := by decide +kernel
theorem dX6_obeys_11 : decode cX6_obeys 11 = .ok (.irem, 1) := by decide +kernel
theorem dX6_obeys_12 : decode cX6_obeys 12 = .ok (.istore_n 3, 1) := by decide +kernel
theorem dX6_obeys_13 : decode cX6_obeys 13 = .ok (.iload_n 1, 1) := by decide +kernel
theorem dX6_obeys_14 : decode cX6_obeys 14 = .ok (.sipush 10000, 3) := by decide +kernel
theorem dX6_obeys_17 : decode cX6_obeys 17 = .ok (.idiv, 1) := by decide +kernel
theorem dX6_obeys_18 : decode cX6_obeys 18 = .ok (.tableswitch 106 1 5 #[34, 41, 48, 55, 82], 34) := by decide +kernel
theorem dX6_obeys_52 : decode cX6_obeys 52 = .ok (.aload_n 0, 1) := by decide +kernel
theorem dX6_obeys_53 : decode cX6_obeys 53 = .ok (.iload_n 2, 1) := by decide +kernel
theorem dX6_obeys_54 : decode cX6_obeys 54 = .ok (.iload_n 3, 1) := by decide +kernel
theorem dX6_obeys_55 : decode cX6_obeys 55 = .ok (.invokevirtual 212, 3) := by decide +kernel
theorem dX6_obeys_58 : decode cX6_obeys 58 = .ok (.ireturn, 1) := by decide +kernel
theorem dX6_obeys_59 : decode cX6_obeys 59 = .ok (.aload_n 0, 1) := by decide +kernel
theorem dX6_obeys_60 : decode cX6_obeys 60 = .ok (.iload_n 2, 1) := by decide +kernel
theorem dX6_obeys_61 : decode cX6_obeys 61 = .ok (.iload_n 3, 1) := by decide +kernel
theorem dX6_obeys_62 : decode cX6_obeys 62 = .ok (.invokevirtual 215, 3) := by decide +kernel
theorem dX6_obeys_65 : decode cX6_obeys 65 = .ok (.ireturn, 1) := by decide +kernel
theorem dX6_obeys_66 : decode cX6_obeys 66 = .ok (.aload_n 0, 1) := by decide +kernel
theorem dX6_obeys_67 : decode cX6_obeys 67 = .ok (.iload_n 2, 1) := by decide +kernel
theorem dX6_obeys_68 : decode cX6_obeys 68 = .ok (.iload_n 3, 1) := by decide +kernel
theorem dX6_obeys_69 : decode cX6_obeys 69 = .ok (.invokevirtual 218, 3) := by decide +kernel
theorem dX6_obeys_72 : decode cX6_obeys 72 = .ok (.ireturn, 1) := by decide +kernel
theorem dX6_obeys_73 : decode cX6_obeys 73 = .ok (.aload_n 0, 1) := by decide +kernel
theorem dX6_obeys_74 : decode cX6_obeys 74 = .ok (.iload_n 2, 1) := by decide +kernel
theorem dX6_obeys_75 : decode cX6_obeys 75 = .ok (.iload_n 3, 1) := by decide +kernel
theorem dX6_obeys_76 : decode cX6_obeys 76 = .ok (.invokevirtual 218, 3) := by decide +kernel
theorem dX6_obeys_79 : decode cX6_obeys 79 = .ok (.ifCond .eq 19, 3) := by decide +kernel
theorem dX6_obeys_82 : decode cX6_obeys 82 = .ok (.aload_n 0, 1) := by decide +kernel
theorem dX6_obeys_83 : decode cX6_obeys 83 = .ok (.getfield 28, 3) := by decide +kernel
theorem dX6_obeys_86 : decode cX6_obeys 86 = .ok (.iload_n 2, 1) := by decide +kernel
theorem dX6_obeys_87 : decode cX6_obeys 87 = .ok (.invokevirtual 164, 3) := by decide +kernel
theorem dX6_obeys_90 : decode cX6_obeys 90 = .ok (.iload_n 3, 1) := by decide +kernel
theorem dX6_obeys_91 : decode cX6_obeys 91 = .ok (.if_icmp .ne 7, 3) := by decide +kernel
theorem dX6_obeys_94 : decode cX6_obeys 94 = .ok (.iconst 1, 1) := by decide +kernel
theorem dX6_obeys_95 : decode cX6_obeys 95 = .ok (.goto 4, 3) := by decide +kernel
theorem dX6_obeys_98 : decode cX6_obeys 98 = .ok (.iconst 0, 1) := by decide +kernel
theorem dX6_obeys_99 : decode cX6_obeys 99 = .ok (.ireturn, 1) := by decide +kernel
theorem dX6_obeys_100 : decode cX6_obeys 100 = .ok (.aload_n 0, 1) := by decide +kernel
theorem dX6_obeys_101 : decode cX6_obeys 101 = .ok (.iload_n 2, 1) := by decide +kernel
theorem dX6_obeys_102 : decode cX6_obeys 102 = .ok (.iload_n 3, 1) := by decide +kernel
theorem dX6_obeys_103 : decode cX6_obeys 103 = .ok (.invokevirtual 218, 3) := by decide +kernel
theorem dX6_obeys_106 : decode cX6_obeys 106 = .ok (.ifCond .eq 16, 3) := by decide +kernel
theorem dX6_obeys_109 : decode cX6_obeys 109 = .ok (.aload_n 0, 1) := by decide +kernel
theorem dX6_obeys_110 : decode cX6_obeys 110 = .ok (.iload_n 2, 1) := by decide +kernel
theorem dX6_obeys_111 : decode cX6_obeys 111 = .ok (.iload_n 3, 1) := by decide +kernel
theorem dX6_obeys_112 : decode cX6_obeys 112 = .ok (.invokevirtual 221, 3) := by decide +kernel
theorem dX6_obeys_115 : decode cX6_obeys 115 = .ok (.ifCond .eq 7, 3) := by decide +kernel
theorem dX6_obeys_118 : decode cX6_obeys 118 = .ok (.iconst 1, 1) := by decide +kernel
theorem dX6_obeys_119 : decode cX6_obeys 119 = .ok (.goto 4, 3) := by decide +kernel
theorem dX6_obeys_122 : decode cX6_obeys 122 = .ok (.iconst 0, 1) := by decide +kernel
theorem dX6_obeys_123 : decode cX6_obeys 123 = .ok (.ireturn, 1) := by decide +kernel
theorem dX6_obeys_124 : decode cX6_obeys 124 = .ok (.iconst 0, 1) := by decide +kernel
theorem dX6_obeys_125 : decode cX6_obeys 125 = .ok (.ireturn, 1) := by decide +kernel
theorem dX6_triesLink_0 : decode cX6_triesLink 0 = .ok (.aload_n 0, 1) := by decide +kernel
theorem dX6_triesLink_1 : decode cX6_triesLink 1 = .ok (.getfield 25, 3) := by decide +kernel
theorem dX6_triesLink_4 : decode cX6_triesLink 4 = .ok (.aload_n 0, 1) := by decide +kernel
theorem dX6_triesLink_5 : decode cX6_triesLink 5 = .ok (.getfield 28, 3) := by decide +kernel
theorem dX6_triesLink_8 : decode cX6_triesLink 8 = .ok (.iload_n 1, 1) := by decide +kernel
theorem dX6_triesLink_9 : decode cX6_triesLink 9 = .ok (.iload_n 2, 1) := by decide +kernel
theorem dX6_triesLink_10 : decode cX6_triesLink 10 = .ok (.iconst 1, 1) := by decide +kernel
theorem dX6_triesLink_11 : decode cX6_triesLink 11 = .ok (.invokestatic 118, 3) := by decide +kernel
theorem dX6_triesLink_14 : decode cX6_triesLink 14 = .ok (.ifCond .eq 5, 3) := by decide +kernel
theorem dX6_triesLink_17 : decode cX6_triesLink 17 = .ok (.iconst 0, 1) := by decide +kernel
theorem dX6_triesLink_18 : decode cX6_triesLink 18 = .ok (.ireturn, 1) := by decide +kernel
theorem dX6_triesLink_19 : decode cX6_triesLink 19 = .ok (.aload_n 0, 1) := by decide +kernel
theorem dX6_triesLink_20 : decode cX6_triesLink 20 = .ok (.getfield 25, 3) := by decide +kernel
theorem dX6_triesLink_23 : decode cX6_triesLink 23 = .ok (.iload_n 1, 1) := by decide +kernel
theorem dX6_triesLink_24 : decode cX6_triesLink 24 = .ok (.iload_n 2, 1) := by decide +kernel
theorem dX6_triesLink_25 : decode cX6_triesLink 25 = .ok (.iconst 1, 1) := by decide +kernel
theorem dX6_triesLink_26 : decode cX6_triesLink 26 = .ok (.invokevirtual 125, 3) := by decide +kernel
theorem dX6_triesLink_29 : decode cX6_triesLink 29 = .ok (.iconst 1, 1) := by decide +kernel
theorem dX6_triesLink_30 : decode cX6_triesLink 30 = .ok (.ireturn, 1) := by decide +kernel
theorem dX6_triesCut_0 : decode cX6_triesCut 0 = .ok (.aload_n 0, 1) := by decide +kernel
theorem dX6_triesCut_1 : decode cX6_triesCut 1 = .ok (.getfield 25, 3) := by decide +kernel
theorem dX6_triesCut_4 : decode cX6_triesCut 4 = .ok (.iload_n 1, 1) := by decide +kernel
theorem dX6_triesCut_5 : decode cX6_triesCut 5 = .ok (.iload_n 2, 1) := by decide +kernel
theorem dX6_triesCut_6 : decode cX6_triesCut 6 = .ok (.invokestatic 129, 3) := by decide +kernel
theorem dX6_triesCut_9 : decode cX6_triesCut 9 = .ok (.ifCond .eq 5, 3) := by decide +kernel
theorem dX6_triesCut_12 : decode cX6_triesCut 12 = .ok (.iconst 0, 1) := by decide +kernel
theorem dX6_triesCut_13 : decode cX6_triesCut 13 = .ok (.ireturn, 1) := by decide +kernel
theorem dX6_triesCut_14 : decode cX6_triesCut 14 = .ok (.aload_n 0, 1) := by decide +kernel
theorem dX6_triesCut_15 : decode cX6_triesCut 15 = .ok (.getfield 25, 3) := by decide +kernel
theorem dX6_triesCut_18 : decode cX6_triesCut 18 = .ok (.iload_n 1, 1) := by decide +kernel
theorem dX6_triesCut_19 : decode cX6_triesCut 19 = .ok (.iload_n 2, 1) := by decide +kernel
theorem dX6_triesCut_20 : decode cX6_triesCut 20 = .ok (.iconst 0, 1) := by decide +kernel
theorem dX6_triesCut_21 : decode cX6_triesCut 21 = .ok (.invokevirtual 125, 3) := by decide +kernel
theorem dX6_triesCut_24 : decode cX6_triesCut 24 = .ok (.iconst 1, 1) := by decide +kernel
theorem dX6_triesCut_25 : decode cX6_triesCut 25 = .ok (.ireturn, 1) := by decide +kernel
theorem dX6_joinedInTrial_0 : decode cX6_joinedInTrial 0 = .ok (.aload_n 0, 1) := by decide +kernel
theorem dX6_joinedInTrial_1 : decode cX6_joinedInTrial 1 = .ok (.getfield 28, 3) := by decide +kernel
theorem dX6_joinedInTrial_4 : decode cX6_joinedInTrial 4 = .ok (.invokevirtual 112, 3) := by decide +kernel
theorem dX6_joinedInTrial_7 : decode cX6_joinedInTrial 7 = .ok (.aload_n 0, 1) := by decide +kernel
theorem dX6_joinedInTrial_8 : decode cX6_joinedInTrial 8 = .ok (.getfield 28, 3) := by decide +kernel
theorem dX6_joinedInTrial_11 : decode cX6_joinedInTrial 11 = .ok (.iload_n 1, 1) := by decide +kernel
theorem dX6_joinedInTrial_12 : decode cX6_joinedInTrial 12 = .ok (.iload_n 2, 1) := by decide +kernel
theorem dX6_joinedInTrial_13 : decode cX6_joinedInTrial 13 = .ok (.invokevirtual 142, 3) := by decide +kernel
theorem dX6_joinedInTrial_16 : decode cX6_joinedInTrial 16 = .ok (.ireturn, 1) := by decide +kernel
theorem dX6_leavesEarlier_0 : decode cX6_leavesEarlier 0 = .ok (.aload_n 0, 1) := by decide +kernel
theorem dX6_leavesEarlier_1 : decode cX6_leavesEarlier 1 = .ok (.getfield 34, 3) := by decide +kernel
theorem dX6_leavesEarlier_4 : decode cX6_leavesEarlier 4 = .ok (.aload_n 0, 1) := by decide +kernel
theorem dX6_leavesEarlier_5 : decode cX6_leavesEarlier 5 = .ok (.getfield 25, 3) := by decide +kernel
theorem dX6_leavesEarlier_8 : decode cX6_leavesEarlier 8 = .ok (.iload_n 1, 1) := by decide +kernel
theorem dX6_leavesEarlier_9 : decode cX6_leavesEarlier 9 = .ok (.invokevirtual 176, 3) := by decide +kernel
theorem dX6_leavesEarlier_12 : decode cX6_leavesEarlier 12 = .ok (.aload_n 0, 1) := by decide +kernel
theorem dX6_leavesEarlier_13 : decode cX6_leavesEarlier 13 = .ok (.getfield 34, 3) := by decide +kernel
theorem dX6_leavesEarlier_16 : decode cX6_leavesEarlier 16 = .ok (.iload_n 1, 1) := by decide +kernel
theorem dX6_leavesEarlier_17 : decode cX6_leavesEarlier 17 = .ok (.invokevirtual 183, 3) := by decide +kernel
theorem dX6_leavesEarlier_20 : decode cX6_leavesEarlier 20 = .ok (.istore_n 3, 1) := by decide +kernel
theorem dX6_leavesEarlier_21 : decode cX6_leavesEarlier 21 = .ok (.aload_n 0, 1) := by decide +kernel
theorem dX6_leavesEarlier_22 : decode cX6_leavesEarlier 22 = .ok (.getfield 34, 3) := by decide +kernel
theorem dX6_leavesEarlier_25 : decode cX6_leavesEarlier 25 = .ok (.iload_n 2, 1) := by decide +kernel
theorem dX6_leavesEarlier_26 : decode cX6_leavesEarlier 26 = .ok (.invokevirtual 183, 3) := by decide +kernel
theorem dX6_leavesEarlier_29 : decode cX6_leavesEarlier 29 = .ok (.istore 4, 2) := by decide +kernel
theorem dX6_leavesEarlier_31 : decode cX6_leavesEarlier 31 = .ok (.iload_n 3, 1) := by decide +kernel
theorem dX6_leavesEarlier_32 : decode cX6_leavesEarlier 32 = .ok (.bipush (-9), 2) := by decide +kernel
theorem dX6_leavesEarlier_34 : decode cX6_leavesEarlier 34 = .ok (.if_icmp .eq 20, 3) := by decide +kernel
theorem dX6_leavesEarlier_37 : decode cX6_leavesEarlier 37 = .ok (.iload 4, 2) := by decide +kernel
theorem dX6_leavesEarlier_39 : decode cX6_leavesEarlier 39 = .ok (.bipush (-9), 2) := by decide +kernel
theorem dX6_leavesEarlier_41 : decode cX6_leavesEarlier 41 = .ok (.if_icmp .eq 9, 3) := by decide +kernel
theorem dX6_leavesEarlier_44 : decode cX6_leavesEarlier 44 = .ok (.iload_n 3, 1) := by decide +kernel
theorem dX6_leavesEarlier_45 : decode cX6_leavesEarlier 45 = .ok (.iload 4, 2) := by decide +kernel
theorem dX6_leavesEarlier_47 : decode cX6_leavesEarlier 47 = .ok (.if_icmp .ge 7, 3) := by decide +kernel
theorem dX6_leavesEarlier_50 : decode cX6_leavesEarlier 50 = .ok (.iconst 1, 1) := by decide +kernel
theorem dX6_leavesEarlier_51 : decode cX6_leavesEarlier 51 = .ok (.goto 4, 3) := by decide +kernel
theorem dX6_leavesEarlier_54 : decode cX6_leavesEarlier 54 = .ok (.iconst 0, 1) := by decide +kernel
theorem dX6_leavesEarlier_55 : decode cX6_leavesEarlier 55 = .ok (.ireturn, 1) := by decide +kernel
theorem dX6_randomChanges_0 : decode cX6_randomChanges 0 = .ok (.iload_n 3, 1) := by decide +kernel
theorem dX6_randomChanges_1 : decode cX6_randomChanges 1 = .ok (.iconst 1, 1) := by decide +kernel
theorem dX6_randomChanges_2 : decode cX6_randomChanges 2 = .ok (.if_icmp .lt 9, 3) := by decide +kernel
theorem dX6_randomChanges_5 : decode cX6_randomChanges 5 = .ok (.iload_n 3, 1) := by decide +kernel
theorem dX6_randomChanges_6 : decode cX6_randomChanges 6 = .ok (.bipush 60, 2) := by decide +kernel
theorem dX6_randomChanges_8 : decode cX6_randomChanges 8 = .ok (.if_icmp .le 6, 3) := by decide +kernel
theorem dX6_randomChanges_11 : decode cX6_randomChanges 11 = .ok (.bipush (-2), 2) := by decide +kernel
theorem dX6_randomChanges_13 : decode cX6_randomChanges 13 = .ok (.ireturn, 1) := by decide +kernel
theorem dX6_randomChanges_14 : decode cX6_randomChanges 14 = .ok (.aload_n 0, 1) := by decide +kernel
theorem dX6_randomChanges_15 : decode cX6_randomChanges 15 = .ok (.getfield 25, 3) := by decide +kernel
theorem dX6_randomChanges_18 : decode cX6_randomChanges 18 = .ok (.aload_n 0, 1) := by decide +kernel
theorem dX6_randomChanges_19 : decode cX6_randomChanges 19 = .ok (.getfield 10, 3) := by decide +kernel
theorem dX6_randomChanges_22 : decode cX6_randomChanges 22 = .ok (.invokevirtual 82, 3) := by decide +kernel
theorem dX6_randomChanges_25 : decode cX6_randomChanges 25 = .ok (.lload_n 1, 1) := by decide +kernel
theorem dX6_randomChanges_26 : decode cX6_randomChanges 26 = .ok (.lstore 4, 2) := by decide +kernel
theorem dX6_randomChanges_28 : decode cX6_randomChanges 28 = .ok (.iconst 0, 1) := by decide +kernel
theorem dX6_randomChanges_29 : decode cX6_randomChanges 29 = .ok (.istore 6, 2) := by decide +kernel
theorem dX6_randomChanges_31 : decode cX6_randomChanges 31 = .ok (.iconst 0, 1) := by decide +kernel
theorem dX6_randomChanges_32 : decode cX6_randomChanges 32 = .ok (.istore 7, 2) := by decide +kernel
theorem dX6_randomChanges_34 : decode cX6_randomChanges 34 = .ok (.iload 7, 2) := by decide +kernel
theorem dX6_randomChanges_36 : decode cX6_randomChanges 36 = .ok (.iload_n 3, 1) := by decide +kernel
theorem dX6_randomChanges_37 : decode cX6_randomChanges 37 = .ok (.if_icmp .ge 51, 3) := by decide +kernel
theorem dX6_randomChanges_40 : decode cX6_randomChanges 40 = .ok (.lload 4, 2) := by decide +kernel
theorem dX6_randomChanges_42 : decode cX6_randomChanges 42 = .ok (.ldc2_w 224, 3) := by decide +kernel
theorem dX6_randomChanges_45 : decode cX6_randomChanges 45 = .ok (.lmul, 1) := by decide +kernel
theorem dX6_randomChanges_46 : decode cX6_randomChanges 46 = .ok (.ldc2_w 226, 3) := by decide +kernel
theorem dX6_randomChanges_49 : decode cX6_randomChanges 49 = .ok (.ladd, 1) := by decide +kernel
theorem dX6_randomChanges_50 : decode cX6_randomChanges 50 = .ok (.lstore 4, 2) := by decide +kernel
theorem dX6_randomChanges_52 : decode cX6_randomChanges 52 = .ok (.aload_n 0, 1) := by decide +kernel
theorem dX6_randomChanges_53 : decode cX6_randomChanges 53 = .ok (.lload 4, 2) := by decide +kernel
theorem dX6_randomChanges_55 : decode cX6_randomChanges 55 = .ok (.bipush 33, 2) := by decide +kernel
theorem dX6_randomChanges_57 : decode cX6_randomChanges 57 = .ok (.lushr, 1) := by decide +kernel
theorem dX6_randomChanges_58 : decode cX6_randomChanges 58 = .ok (.l2i, 1) := by decide +kernel
theorem dX6_randomChanges_59 : decode cX6_randomChanges 59 = .ok (.invokevirtual 228, 3) := by decide +kernel
theorem dX6_randomChanges_62 : decode cX6_randomChanges 62 = .ok (.aload_n 0, 1) := by decide +kernel
theorem dX6_randomChanges_63 : decode cX6_randomChanges 63 = .ok (.getfield 28, 3) := by decide +kernel
theorem dX6_randomChanges_66 : decode cX6_randomChanges 66 = .ok (.invokevirtual 112, 3) := by decide +kernel
theorem dX6_randomChanges_69 : decode cX6_randomChanges 69 = .ok (.iload 6, 2) := by decide +kernel
theorem dX6_randomChanges_71 : decode cX6_randomChanges 71 = .ok (.aload_n 0, 1) := by decide +kernel
theorem dX6_randomChanges_72 : decode cX6_randomChanges 72 = .ok (.getfield 28, 3) := by decide +kernel
theorem dX6_randomChanges_75 : decode cX6_randomChanges 75 = .ok (.iconst 0, 1) := by decide +kernel
theorem dX6_randomChanges_76 : decode cX6_randomChanges 76 = .ok (.invokevirtual 155, 3) := by decide +kernel
theorem dX6_randomChanges_79 : decode cX6_randomChanges 79 = .ok (.iadd, 1) := by decide +kernel
theorem dX6_randomChanges_80 : decode cX6_randomChanges 80 = .ok (.istore 6, 2) := by decide +kernel
theorem dX6_randomChanges_82 : decode cX6_randomChanges 82 = .ok (.iinc 7 1, 3) := by decide +kernel
theorem dX6_randomChanges_85 : decode cX6_randomChanges 85 = .ok (.goto (-51), 3) := by decide +kernel
theorem dX6_randomChanges_88 : decode cX6_randomChanges 88 = .ok (.iload 6, 2) := by decide +kernel
theorem dX6_randomChanges_90 : decode cX6_randomChanges 90 = .ok (.ireturn, 1) := by decide +kernel
theorem dX6_changeTrial_0 : decode cX6_changeTrial 0 = .ok (.aload_n 0, 1) := by decide +kernel
theorem dX6_changeTrial_1 : decode cX6_changeTrial 1 = .ok (.getfield 25, 3) := by decide +kernel
theorem dX6_changeTrial_4 : decode cX6_changeTrial 4 = .ok (.invokevirtual 232, 3) := by decide +kernel
theorem dX6_changeTrial_7 : decode cX6_changeTrial 7 = .ok (.istore_n 2, 1) := by decide +kernel
theorem dX6_changeTrial_8 : decode cX6_changeTrial 8 = .ok (.iload_n 2, 1) := by decide +kernel
theorem dX6_changeTrial_9 : decode cX6_changeTrial 9 = .ok (.iconst 1, 1) := by decide +kernel
theorem dX6_changeTrial_10 : decode cX6_changeTrial 10 = .ok (.if_icmp .ge 4, 3) := by decide +kernel
theorem dX6_changeTrial_13 : decode cX6_changeTrial 13 = .ok (.return_, 1) := by decide +kernel
theorem dX6_changeTrial_14 : decode cX6_changeTrial 14 = .ok (.iload_n 1, 1) := by decide +kernel
theorem dX6_changeTrial_15 : decode cX6_changeTrial 15 = .ok (.iload_n 2, 1) := by decide +kernel
theorem dX6_changeTrial_16 : decode cX6_changeTrial 16 = .ok (.irem, 1) := by decide +kernel
theorem dX6_changeTrial_17 : decode cX6_changeTrial 17 = .ok (.istore_n 3, 1) := by decide +kernel
theorem dX6_changeTrial_18 : decode cX6_changeTrial 18 = .ok (.iload_n 1, 1) := by decide +kernel
theorem dX6_changeTrial_19 : decode cX6_changeTrial 19 = .ok (.bipush 16, 2) := by decide +kernel
theorem dX6_changeTrial_21 : decode cX6_changeTrial 21 = .ok (.idiv, 1) := by decide +kernel
theorem dX6_changeTrial_22 : decode cX6_changeTrial 22 = .ok (.iload_n 2, 1) := by decide +kernel
theorem dX6_changeTrial_23 : decode cX6_changeTrial 23 = .ok (.irem, 1) := by decide +kernel
theorem dX6_changeTrial_24 : decode cX6_changeTrial 24 = .ok (.istore 4, 2) := by decide +kernel
theorem dX6_changeTrial_26 : decode cX6_changeTrial 26 = .ok (.iload_n 1, 1) := by decide +kernel
theorem dX6_changeTrial_27 : decode cX6_changeTrial 27 = .ok (.sipush 256, 3) := by decide +kernel
theorem dX6_changeTrial_30 : decode cX6_changeTrial 30 = .ok (.idiv, 1) := by decide +kernel
theorem dX6_changeTrial_31 : decode cX6_changeTrial 31 = .ok (.bipush 99, 2) := by decide +kernel
theorem dX6_changeTrial_33 : decode cX6_changeTrial 33 = .ok (.irem, 1) := by decide +kernel
theorem dX6_changeTrial_34 : decode cX6_changeTrial 34 = .ok (.iconst 1, 1) := by decide +kernel
theorem dX6_changeTrial_35 : decode cX6_changeTrial 35 = .ok (.iadd, 1) := by decide +kernel
theorem dX6_changeTrial_36 : decode cX6_changeTrial 36 = .ok (.istore 5, 2) := by decide +kernel
theorem dX6_changeTrial_38 : decode cX6_changeTrial 38 = .ok (.aload_n 0, 1) := by decide +kernel
theorem dX6_changeTrial_39 : decode cX6_changeTrial 39 = .ok (.getfield 25, 3) := by decide +kernel
theorem dX6_changeTrial_42 : decode cX6_changeTrial 42 = .ok (.iload_n 3, 1) := by decide +kernel
theorem dX6_changeTrial_43 : decode cX6_changeTrial 43 = .ok (.iload 4, 2) := by decide +kernel
theorem dX6_changeTrial_45 : decode cX6_changeTrial 45 = .ok (.invokevirtual 105, 3) := by decide +kernel
theorem dX6_changeTrial_48 : decode cX6_changeTrial 48 = .ok (.ifCond .eq 29, 3) := by decide +kernel
theorem dX6_changeTrial_51 : decode cX6_changeTrial 51 = .ok (.aload_n 0, 1) := by decide +kernel
theorem dX6_changeTrial_52 : decode cX6_changeTrial 52 = .ok (.getfield 25, 3) := by decide +kernel
theorem dX6_changeTrial_55 : decode cX6_changeTrial 55 = .ok (.iload_n 3, 1) := by decide +kernel
theorem dX6_changeTrial_56 : decode cX6_changeTrial 56 = .ok (.iload 4, 2) := by decide +kernel
theorem dX6_changeTrial_58 : decode cX6_changeTrial 58 = .ok (.iload 5, 2) := by decide +kernel
theorem dX6_changeTrial_60 : decode cX6_changeTrial 60 = .ok (.iconst 2, 1) := by decide +kernel
theorem dX6_changeTrial_61 : decode cX6_changeTrial 61 = .ok (.irem, 1) := by decide +kernel
theorem dX6_changeTrial_62 : decode cX6_changeTrial 62 = .ok (.ifCond .ne 7, 3) := by decide +kernel
theorem dX6_changeTrial_65 : decode cX6_changeTrial 65 = .ok (.iconst 0, 1) := by decide +kernel
theorem dX6_changeTrial_66 : decode cX6_changeTrial 66 = .ok (.goto 5, 3) := by decide +kernel
theorem dX6_changeTrial_69 : decode cX6_changeTrial 69 = .ok (.iload 5, 2) := by decide +kernel
theorem dX6_changeTrial_71 : decode cX6_changeTrial 71 = .ok (.invokevirtual 125, 3) := by decide +kernel
theorem dX6_changeTrial_74 : decode cX6_changeTrial 74 = .ok (.goto 34, 3) := by decide +kernel
theorem dX6_changeTrial_77 : decode cX6_changeTrial 77 = .ok (.aload_n 0, 1) := by decide +kernel
theorem dX6_changeTrial_78 : decode cX6_changeTrial 78 = .ok (.getfield 25, 3) := by decide +kernel
theorem dX6_changeTrial_81 : decode cX6_changeTrial 81 = .ok (.aload_n 0, 1) := by decide +kernel
theorem dX6_changeTrial_82 : decode cX6_changeTrial 82 = .ok (.getfield 28, 3) := by decide +kernel
theorem dX6_changeTrial_85 : decode cX6_changeTrial 85 = .ok (.iload_n 3, 1) := by decide +kernel
theorem dX6_changeTrial_86 : decode cX6_changeTrial 86 = .ok (.iload 4, 2) := by decide +kernel
theorem dX6_changeTrial_88 : decode cX6_changeTrial 88 = .ok (.iload 5, 2) := by decide +kernel
theorem dX6_changeTrial_90 : decode cX6_changeTrial 90 = .ok (.invokestatic 118, 3) := by decide +kernel
theorem dX6_changeTrial_93 : decode cX6_changeTrial 93 = .ok (.ifCond .ne 15, 3) := by decide +kernel
theorem dX6_changeTrial_96 : decode cX6_changeTrial 96 = .ok (.aload_n 0, 1) := by decide +kernel
theorem dX6_changeTrial_97 : decode cX6_changeTrial 97 = .ok (.getfield 25, 3) := by decide +kernel
theorem dX6_changeTrial_100 : decode cX6_changeTrial 100 = .ok (.iload_n 3, 1) := by decide +kernel
theorem dX6_changeTrial_101 : decode cX6_changeTrial 101 = .ok (.iload 4, 2) := by decide +kernel
theorem dX6_changeTrial_103 : decode cX6_changeTrial 103 = .ok (.iload 5, 2) := by decide +kernel
theorem dX6_changeTrial_105 : decode cX6_changeTrial 105 = .ok (.invokevirtual 125, 3) := by decide +kernel
theorem dX6_changeTrial_108 : decode cX6_changeTrial 108 = .ok (.return_, 1) := by decide +kernel
theorem dX6_save_0 : decode cX6_save 0 = .ok (.iload_n 1, 1) := by decide +kernel
theorem dX6_save_1 : decode cX6_save 1 = .ok (.ifCond .lt 8, 3) := by decide +kernel
theorem dX6_save_4 : decode cX6_save 4 = .ok (.iload_n 1, 1) := by decide +kernel
theorem dX6_save_5 : decode cX6_save 5 = .ok (.iconst 2, 1) := by decide +kernel
theorem dX6_save_6 : decode cX6_save 6 = .ok (.if_icmp .lt 5, 3) := by decide +kernel
theorem dX6_save_9 : decode cX6_save 9 = .ok (.iconst (-1), 1) := by decide +kernel
theorem dX6_save_10 : decode cX6_save 10 = .ok (.ireturn, 1) := by decide +kernel
theorem dX6_save_11 : decode cX6_save 11 = .ok (.aload_n 0, 1) := by decide +kernel
theorem dX6_save_12 : decode cX6_save 12 = .ok (.getfield 59, 3) := by decide +kernel
theorem dX6_save_15 : decode cX6_save 15 = .ok (.iload_n 1, 1) := by decide +kernel
theorem dX6_save_16 : decode cX6_save 16 = .ok (.aaload, 1) := by decide +kernel
theorem dX6_save_17 : decode cX6_save 17 = .ok (.aload_n 0, 1) := by decide +kernel
theorem dX6_save_18 : decode cX6_save 18 = .ok (.getfield 10, 3) := by decide +kernel
theorem dX6_save_21 : decode cX6_save 21 = .ok (.invokevirtual 82, 3) := by decide +kernel
theorem dX6_save_24 : decode cX6_save 24 = .ok (.aload_n 0, 1) := by decide +kernel
theorem dX6_save_25 : decode cX6_save 25 = .ok (.getfield 63, 3) := by decide +kernel
theorem dX6_save_28 : decode cX6_save 28 = .ok (.iload_n 1, 1) := by decide +kernel
theorem dX6_save_29 : decode cX6_save 29 = .ok (.iconst 1, 1) := by decide +kernel
theorem dX6_save_30 : decode cX6_save 30 = .ok (.bastore, 1) := by decide +kernel
theorem dX6_save_31 : decode cX6_save 31 = .ok (.aload_n 0, 1) := by decide +kernel
theorem dX6_save_32 : decode cX6_save 32 = .ok (.getfield 10, 3) := by decide +kernel
theorem dX6_save_35 : decode cX6_save 35 = .ok (.invokevirtual 91, 3) := by decide +kernel
theorem dX6_save_38 : decode cX6_save 38 = .ok (.ireturn, 1) := by decide +kernel
theorem dX6_restore_0 : decode cX6_restore 0 = .ok (.iload_n 1, 1) := by decide +kernel
theorem dX6_restore_1 : decode cX6_restore 1 = .ok (.ifCond .lt 8, 3) := by decide +kernel
theorem dX6_restore_4 : decode cX6_restore 4 = .ok (.iload_n 1, 1) := by decide +kernel
theorem dX6_restore_5 : decode cX6_restore 5 = .ok (.iconst 2, 1) := by decide +kernel
theorem dX6_restore_6 : decode cX6_restore 6 = .ok (.if_icmp .lt 5, 3) := by decide +kernel
theorem dX6_restore_9 : decode cX6_restore 9 = .ok (.iconst (-1), 1) := by decide +kernel
theorem dX6_restore_10 : decode cX6_restore 10 = .ok (.ireturn, 1) := by decide +kernel
theorem dX6_restore_11 : decode cX6_restore 11 = .ok (.aload_n 0, 1) := by decide +kernel
theorem dX6_restore_12 : decode cX6_restore 12 = .ok (.getfield 63, 3) := by decide +kernel
theorem dX6_restore_15 : decode cX6_restore 15 = .ok (.iload_n 1, 1) := by decide +kernel
theorem dX6_restore_16 : decode cX6_restore 16 = .ok (.baload, 1) := by decide +kernel
theorem dX6_restore_17 : decode cX6_restore 17 = .ok (.ifCond .ne 6, 3) := by decide +kernel
theorem dX6_restore_20 : decode cX6_restore 20 = .ok (.bipush (-3), 2) := by decide +kernel
theorem dX6_restore_22 : decode cX6_restore 22 = .ok (.ireturn, 1) := by decide +kernel
theorem dX6_restore_23 : decode cX6_restore 23 = .ok (.aload_n 0, 1) := by decide +kernel
theorem dX6_restore_24 : decode cX6_restore 24 = .ok (.getfield 10, 3) := by decide +kernel
theorem dX6_restore_27 : decode cX6_restore 27 = .ok (.aload_n 0, 1) := by decide +kernel
theorem dX6_restore_28 : decode cX6_restore 28 = .ok (.getfield 59, 3) := by decide +kernel
theorem dX6_restore_31 : decode cX6_restore 31 = .ok (.iload_n 1, 1) := by decide +kernel
theorem dX6_restore_32 : decode cX6_restore 32 = .ok (.aaload, 1) := by decide +kernel
theorem dX6_restore_33 : decode cX6_restore 33 = .ok (.invokevirtual 82, 3) := by decide +kernel
theorem dX6_restore_36 : decode cX6_restore 36 = .ok (.aload_n 0, 1) := by decide +kernel
theorem dX6_restore_37 : decode cX6_restore 37 = .ok (.getfield 48, 3) := by decide +kernel
theorem dX6_restore_40 : decode cX6_restore 40 = .ok (.invokevirtual 85, 3) := by decide +kernel
theorem dX6_restore_43 : decode cX6_restore 43 = .ok (.aload_n 0, 1) := by decide +kernel
theorem dX6_restore_44 : decode cX6_restore 44 = .ok (.getfield 10, 3) := by decide +kernel
theorem dX6_restore_47 : decode cX6_restore 47 = .ok (.invokevirtual 91, 3) := by decide +kernel
theorem dX6_restore_50 : decode cX6_restore 50 = .ok (.ireturn, 1) := by decide +kernel
