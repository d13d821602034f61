theorem dX0_init_0 : decode cX0_init 0 = .ok (.aload_n 0, 1) := by decide +kernel
theorem dX0_init_1 : decode cX0_init 1 = .ok (.invokespecial 3, 3) := by decide +kernel
theorem dX0_init_4 : decode cX0_init 4 = .ok (.aload_n 0, 1) := by decide +kernel
theorem dX0_init_5 : decode cX0_init 5 = .ok (.bipush 12, 2) := by decide +kernel
theorem dX0_init_7 : decode cX0_init 7 = .ok (.newarray .boolean, 2) := by decide +kernel
theorem dX0_init_9 : decode cX0_init 9 = .ok (.putfield 9, 3) := by decide +kernel
theorem dX0_init_12 : decode cX0_init 12 = .ok (.aload_n 0, 1) := by decide +kernel
theorem dX0_init_13 : decode cX0_init 13 = .ok (.bipush 12, 2) := by decide +kernel
theorem dX0_init_15 : decode cX0_init 15 = .ok (.newarray .boolean, 2) := by decide +kernel
theorem dX0_init_17 : decode cX0_init 17 = .ok (.putfield 15, 3) := by decide +kernel
theorem dX0_init_20 : decode cX0_init 20 = .ok (.aload_n 0, 1) := by decide +kernel
theorem dX0_init_21 : decode cX0_init 21 = .ok (.bipush 12, 2) := by decide +kernel
theorem dX0_init_23 : decode cX0_init 23 = .ok (.newarray .int, 2) := by decide +kernel
theorem dX0_init_25 : decode cX0_init 25 = .ok (.putfield 18, 3) := by decide +kernel
theorem dX0_init_28 : decode cX0_init 28 = .ok (.aload_n 0, 1) := by decide +kernel
theorem dX0_init_29 : decode cX0_init 29 = .ok (.bipush 12, 2) := by decide +kernel
theorem dX0_init_31 : decode cX0_init 31 = .ok (.bipush 12, 2) := by decide +kernel
theorem dX0_init_33 : decode cX0_init 33 = .ok (.multianewarray 22 2, 4) := by decide +kernel
theorem dX0_init_37 : decode cX0_init 37 = .ok (.putfield 24, 3) := by decide +kernel
theorem dX0_init_40 : decode cX0_init 40 = .ok (.return_, 1) := by decide +kernel
theorem dX0_contract_0 : decode cX0_contract 0 = .ok (.aload_n 0, 1) := by decide +kernel
theorem dX0_contract_1 : decode cX0_contract 1 = .ok (.aload_n 1, 1) := by decide +kernel
theorem dX0_contract_2 : decode cX0_contract 2 = .ok (.invokevirtual 27, 3) := by decide +kernel
theorem dX0_contract_5 : decode cX0_contract 5 = .ok (.aload_n 0, 1) := by decide +kernel
theorem dX0_contract_6 : decode cX0_contract 6 = .ok (.iload_n 2, 1) := by decide +kernel
theorem dX0_contract_7 : decode cX0_contract 7 = .ok (.invokevirtual 31, 3) := by decide +kernel
theorem dX0_contract_10 : decode cX0_contract 10 = .ok (.aload_n 0, 1) := by decide +kernel
theorem dX0_contract_11 : decode cX0_contract 11 = .ok (.iconst 0, 1) := by decide +kernel
theorem dX0_contract_12 : decode cX0_contract 12 = .ok (.putfield 35, 3) := by decide +kernel
theorem dX0_contract_15 : decode cX0_contract 15 = .ok (.aload_n 0, 1) := by decide +kernel
theorem dX0_contract_16 : decode cX0_contract 16 = .ok (.getfield 39, 3) := by decide +kernel
theorem dX0_contract_19 : decode cX0_contract 19 = .ok (.iconst 1, 1) := by decide +kernel
theorem dX0_contract_20 : decode cX0_contract 20 = .ok (.if_icmp .le 33, 3) := by decide +kernel
theorem dX0_contract_23 : decode cX0_contract 23 = .ok (.aload_n 0, 1) := by decide +kernel
theorem dX0_contract_24 : decode cX0_contract 24 = .ok (.getfield 35, 3) := by decide +kernel
theorem dX0_contract_27 : decode cX0_contract 27 = .ok (.bipush 12, 2) := by decide +kernel
theorem dX0_contract_29 : decode cX0_contract 29 = .ok (.if_icmp .ge 24, 3) := by decide +kernel
theorem dX0_contract_32 : decode cX0_contract 32 = .ok (.aload_n 0, 1) := by decide +kernel
theorem dX0_contract_33 : decode cX0_contract 33 = .ok (.dup, 1) := by decide +kernel
theorem dX0_contract_34 : decode cX0_contract 34 = .ok (.getfield 35, 3) := by decide +kernel
theorem dX0_contract_37 : decode cX0_contract 37 = .ok (.iconst 1, 1) := by decide +kernel
theorem dX0_contract_38 : decode cX0_contract 38 = .ok (.iadd, 1) := by decide +kernel
theorem dX0_contract_39 : decode cX0_contract 39 = .ok (.putfield 35, 3) := by decide +kernel
theorem dX0_contract_42 : decode cX0_contract 42 = .ok (.aload_n 0, 1) := by decide +kernel
theorem dX0_contract_43 : decode cX0_contract 43 = .ok (.invokevirtual 42, 3) := by decide +kernel
theorem dX0_contract_46 : decode cX0_contract 46 = .ok (.aload_n 0, 1) := by decide +kernel
theorem dX0_contract_47 : decode cX0_contract 47 = .ok (.invokevirtual 45, 3) := by decide +kernel
theorem dX0_contract_50 : decode cX0_contract 50 = .ok (.goto (-35), 3) := by decide +kernel
theorem dX0_contract_53 : decode cX0_contract 53 = .ok (.return_, 1) := by decide +kernel
theorem dX0_roundCount_0 : decode cX0_roundCount 0 = .ok (.aload_n 0, 1) := by decide +kernel
theorem dX0_roundCount_1 : decode cX0_roundCount 1 = .ok (.getfield 35, 3) := by decide +kernel
theorem dX0_roundCount_4 : decode cX0_roundCount 4 = .ok (.ireturn, 1) := by decide +kernel
theorem dX0_roundOf_0 : decode cX0_roundOf 0 = .ok (.aload_n 0, 1) := by decide +kernel
theorem dX0_roundOf_1 : decode cX0_roundOf 1 = .ok (.iload_n 1, 1) := by decide +kernel
theorem dX0_roundOf_2 : decode cX0_roundOf 2 = .ok (.invokevirtual 48, 3) := by decide +kernel
theorem dX0_roundOf_5 : decode cX0_roundOf 5 = .ok (.ifCond .eq 12, 3) := by decide +kernel
theorem dX0_roundOf_8 : decode cX0_roundOf 8 = .ok (.aload_n 0, 1) := by decide +kernel
theorem dX0_roundOf_9 : decode cX0_roundOf 9 = .ok (.getfield 18, 3) := by decide +kernel
theorem dX0_roundOf_12 : decode cX0_roundOf 12 = .ok (.iload_n 1, 1) := by decide +kernel
theorem dX0_roundOf_13 : decode cX0_roundOf 13 = .ok (.iaload, 1) := by decide +kernel
theorem dX0_roundOf_14 : decode cX0_roundOf 14 = .ok (.goto 5, 3) := by decide +kernel
theorem dX0_roundOf_17 : decode cX0_roundOf 17 = .ok (.bipush (-9), 2) := by decide +kernel
theorem dX0_roundOf_19 : decode cX0_roundOf 19 = .ok (.ireturn, 1) := by decide +kernel
theorem dX0_lastVertex_0 : decode cX0_lastVertex 0 = .ok (.iconst 0, 1) := by decide +kernel
theorem dX0_lastVertex_1 : decode cX0_lastVertex 1 = .ok (.istore_n 1, 1) := by decide +kernel
theorem dX0_lastVertex_2 : decode cX0_lastVertex 2 = .ok (.iload_n 1, 1) := by decide +kernel
theorem dX0_lastVertex_3 : decode cX0_lastVertex 3 = .ok (.aload_n 0, 1) := by decide +kernel
theorem dX0_lastVertex_4 : decode cX0_lastVertex 4 = .ok (.getfield 52, 3) := by decide +kernel
theorem dX0_lastVertex_7 : decode cX0_lastVertex 7 = .ok (.if_icmp .ge 20, 3) := by decide +kernel
theorem dX0_lastVertex_10 : decode cX0_lastVertex 10 = .ok (.aload_n 0, 1) := by decide +kernel
theorem dX0_lastVertex_11 : decode cX0_lastVertex 11 = .ok (.getfield 9, 3) := by decide +kernel
theorem dX0_lastVertex_14 : decode cX0_lastVertex 14 = .ok (.iload_n 1, 1) := by decide +kernel
theorem dX0_lastVertex_15 : decode cX0_lastVertex 15 = .ok (.baload, 1) := by decide +kernel
theorem dX0_lastVertex_16 : decode cX0_lastVertex 16 = .ok (.ifCond .eq 5, 3) := by decide +kernel
theorem dX0_lastVertex_19 : decode cX0_lastVertex 19 = .ok (.iload_n 1, 1) := by decide +kernel
theorem dX0_lastVertex_20 : decode cX0_lastVertex 20 = .ok (.ireturn, 1) := by decide +kernel
theorem dX0_lastVertex_21 : decode cX0_lastVertex 21 = .ok (.iinc 1 1, 3) := by decide +kernel
theorem dX0_lastVertex_24 : decode cX0_lastVertex 24 = .ok (.goto (-22), 3) := by decide +kernel
theorem dX0_lastVertex_27 : decode cX0_lastVertex 27 = .ok (.bipush (-9), 2) := by decide +kernel
theorem dX0_lastVertex_29 : decode cX0_lastVertex 29 = .ok (.ireturn, 1) := by decide +kernel
theorem dX0_isVertex_0 : decode cX0_isVertex 0 = .ok (.iload_n 1, 1) := by decide +kernel
theorem dX0_isVertex_1 : decode cX0_isVertex 1 = .ok (.ifCond .lt 15, 3) := by decide +kernel
theorem dX0_isVertex_4 : decode cX0_isVertex 4 = .ok (.iload_n 1, 1) := by decide +kernel
theorem dX0_isVertex_5 : decode cX0_isVertex 5 = .ok (.aload_n 0, 1) := by decide +kernel
theorem dX0_isVertex_6 : decode cX0_isVertex 6 = .ok (.getfield 52, 3) := by decide +kernel
theorem dX0_isVertex_9 : decode cX0_isVertex 9 = .ok (.if_icmp .ge 7, 3) := by decide +kernel
theorem dX0_isVertex_12 : decode cX0_isVertex 12 = .ok (.iconst 1, 1) := by decide +kernel
theorem dX0_isVertex_13 : decode cX0_isVertex 13 = .ok (.goto 4, 3) := by decide +kernel
theorem dX0_isVertex_16 : decode cX0_isVertex 16 = .ok (.iconst 0, 1) := by decide +kernel
theorem dX0_isVertex_17 : decode cX0_isVertex 17 = .ok (.ireturn, 1) := by decide +kernel
theorem dX0_copyEdges_0 : decode cX0_copyEdges 0 = .ok (.aload_n 0, 1) := by decide +kernel
theorem dX0_copyEdges_1 : decode cX0_copyEdges 1 = .ok (.aload_n 1, 1) := by decide +kernel
theorem dX0_copyEdges_2 : decode cX0_copyEdges 2 = .ok (.invokevirtual 55, 3) := by decide +kernel
theorem dX0_copyEdges_5 : decode cX0_copyEdges 5 = .ok (.putfield 52, 3) := by decide +kernel
theorem dX0_copyEdges_8 : decode cX0_copyEdges 8 = .ok (.iconst 0, 1) := by decide +kernel
theorem dX0_copyEdges_9 : decode cX0_copyEdges 9 = .ok (.istore_n 2, 1) := by decide +kernel
theorem dX0_copyEdges_10 : decode cX0_copyEdges 10 = .ok (.iload_n 2, 1) := by decide +kernel
theorem dX0_copyEdges_11 : decode cX0_copyEdges 11 = .ok (.aload_n 0, 1) := by decide +kernel
theorem dX0_copyEdges_12 : decode cX0_copyEdges 12 = .ok (.getfield 52, 3) := by decide +kernel
theorem dX0_copyEdges_15 : decode cX0_copyEdges 15 = .ok (.if_icmp .ge 47, 3) := by decide +kernel
theorem dX0_copyEdges_18 : decode cX0_copyEdges 18 = .ok (.iconst 0, 1) := by decide +kernel
theorem dX0_copyEdges_19 : decode cX0_copyEdges 19 = .ok (.istore_n 3, 1) := by decide +kernel
theorem dX0_copyEdges_20 : decode cX0_copyEdges 20 = .ok (.iload_n 3, 1) := by decide +kernel
theorem dX0_copyEdges_21 : decode cX0_copyEdges 21 = .ok (.aload_n 0, 1) := by decide +kernel
theorem dX0_copyEdges_22 : decode cX0_copyEdges 22 = .ok (.getfield 52, 3) := by decide +kernel
theorem dX0_copyEdges_25 : decode cX0_copyEdges 25 = .ok (.if_icmp .ge 31, 3) := by decide +kernel
theorem dX0_copyEdges_28 : decode cX0_copyEdges 28 = .ok (.aload_n 0, 1) := by decide +kernel
theorem dX0_copyEdges_29 : decode cX0_copyEdges 29 = .ok (.getfield 24, 3) := by decide +kernel
theorem dX0_copyEdges_32 : decode cX0_copyEdges 32 = .ok (.iload_n 2, 1) := by decide +kernel
theorem dX0_copyEdges_33 : decode cX0_copyEdges 33 = .ok (.aaload, 1) := by decide +kernel
theorem dX0_copyEdges_34 : decode cX0_copyEdges 34 = .ok (.iload_n 3, 1) := by decide +kernel
theorem dX0_copyEdges_35 : decode cX0_copyEdges 35 = .ok (.aload_n 1, 1) := by decide +kernel
theorem dX0_copyEdges_36 : decode cX0_copyEdges 36 = .ok (.iload_n 2, 1) := by decide +kernel
theorem dX0_copyEdges_37 : decode cX0_copyEdges 37 = .ok (.iload_n 3, 1) := by decide +kernel
theorem dX0_copyEdges_38 : decode cX0_copyEdges 38 = .ok (.invokevirtual 61, 3) := by decide +kernel
theorem dX0_copyEdges_41 : decode cX0_copyEdges 41 = .ok (.ifCond .ne 7, 3) := by decide +kernel
theorem dX0_copyEdges_44 : decode cX0_copyEdges 44 = .ok (.iconst 0, 1) := by decide +kernel
theorem dX0_copyEdges_45 : decode cX0_copyEdges 45 = .ok (.goto 4, 3) := by decide +kernel
theorem dX0_copyEdges_48 : decode cX0_copyEdges 48 = .ok (.iconst 1, 1) := by decide +kernel
theorem dX0_copyEdges_49 : decode cX0_copyEdges 49 = .ok (.iastore, 1) := by decide +kernel
theorem dX0_copyEdges_50 : decode cX0_copyEdges 50 = .ok (.iinc 3 1, 3) := by decide +kernel
theorem dX0_copyEdges_53 : decode cX0_copyEdges 53 = .ok (.goto (-33), 3) := by decide +kernel
theorem dX0_copyEdges_56 : decode cX0_copyEdges 56 = .ok (.iinc 2 1, 3) := by decide +kernel
theorem dX0_copyEdges_59 : decode cX0_copyEdges 59 = .ok (.goto (-49), 3) := by decide +kernel
theorem dX0_copyEdges_62 : decode cX0_copyEdges 62 = .ok (.return_, 1) := by decide +kernel
theorem dX0_gatherTree_0 : decode cX0_gatherTree 0 = .ok (.iconst 0, 1) := by decide +kernel
theorem dX0_gatherTree_1 : decode cX0_gatherTree 1 = .ok (.istore_n 2, 1) := by decide +kernel
theorem dX0_gatherTree_2 : decode cX0_gatherTree 2 = .ok (.iload_n 2, 1) := by decide +kernel
theorem dX0_gatherTree_3 : decode cX0_gatherTree 3 = .ok (.bipush 12, 2) := by decide +kernel
theorem dX0_gatherTree_5 : decode cX0_gatherTree 5 = .ok (.if_icmp .ge 24, 3) := by decide +kernel
theorem dX0_gatherTree_8 : decode cX0_gatherTree 8 = .ok (.aload_n 0, 1) := by decide +kernel
theorem dX0_gatherTree_9 : decode cX0_gatherTree 9 = .ok (.getfield 9, 3) := by decide +kernel
theorem dX0_gatherTree_12 : decode cX0_gatherTree 12 = .ok (.iload_n 2, 1) := by decide +kernel
theorem dX0_gatherTree_13 : decode cX0_gatherTree 13 = .ok (.iconst 0, 1) := by decide +kernel
theorem dX0_gatherTree_14 : decode cX0_gatherTree 14 = .ok (.bastore, 1) := by decide +kernel
theorem dX0_gatherTree_15 : decode cX0_gatherTree 15 = .ok (.aload_n 0, 1) := by decide +kernel
theorem dX0_gatherTree_16 : decode cX0_gatherTree 16 = .ok (.getfield 18, 3) := by decide +kernel
theorem dX0_gatherTree_19 : decode cX0_gatherTree 19 = .ok (.iload_n 2, 1) := by decide +kernel
theorem dX0_gatherTree_20 : decode cX0_gatherTree 20 = .ok (.bipush (-9), 2) := by decide +kernel
theorem dX0_gatherTree_22 : decode cX0_gatherTree 22 = .ok (.iastore, 1) := by decide +kernel
theorem dX0_gatherTree_23 : decode cX0_gatherTree 23 = .ok (.iinc 2 1, 3) := by decide +kernel
theorem dX0_gatherTree_26 : decode cX0_gatherTree 26 = .ok (.goto (-24), 3) := by decide +kernel
theorem dX0_gatherTree_29 : decode cX0_gatherTree 29 = .ok (.aload_n 0, 1) := by decide +kernel
theorem dX0_gatherTree_30 : decode cX0_gatherTree 30 = .ok (.iconst 0, 1) := by decide +kernel
theorem dX0_gatherTree_31 : decode cX0_gatherTree 31 = .ok (.putfield 39, 3) := by decide +kernel
theorem dX0_gatherTree_34 : decode cX0_gatherTree 34 = .ok (.aload_n 0, 1) := by decide +kernel
theorem dX0_gatherTree_35 : decode cX0_gatherTree 35 = .ok (.iload_n 1, 1) := by decide +kernel
theorem dX0_gatherTree_36 : decode cX0_gatherTree 36 = .ok (.invokevirtual 48, 3) := by decide +kernel
theorem dX0_gatherTree_39 : decode cX0_gatherTree 39 = .ok (.ifCond .ne 4, 3) := by decide +kernel
theorem dX0_gatherTree_42 : decode cX0_gatherTree 42 = .ok (.return_, 1) := by decide +kernel
theorem dX0_gatherTree_43 : decode cX0_gatherTree 43 = .ok (.aload_n 0, 1) := by decide +kernel
theorem dX0_gatherTree_44 : decode cX0_gatherTree 44 = .ok (.getfield 9, 3) := by decide +kernel
theorem dX0_gatherTree_47 : decode cX0_gatherTree 47 = .ok (.iload_n 1, 1) := by decide +kernel
theorem dX0_gatherTree_48 : decode cX0_gatherTree 48 = .ok (.iconst 1, 1) := by decide +kernel
theorem dX0_gatherTree_49 : decode cX0_gatherTree 49 = .ok (.bastore, 1) := by decide +kernel
theorem dX0_gatherTree_50 : decode cX0_gatherTree 50 = .ok (.aload_n 0, 1) := by decide +kernel
theorem dX0_gatherTree_51 : decode cX0_gatherTree 51 = .ok (.iconst 1, 1) := by decide +kernel
theorem dX0_gatherTree_52 : decode cX0_gatherTree 52 = .ok (.putfield 39, 3) := by decide +kernel
theorem dX0_gatherTree_55 : decode cX0_gatherTree 55 = .ok (.iconst 0, 1) := by decide +kernel
theorem dX0_gatherTree_56 : decode cX0_gatherTree 56 = .ok (.istore_n 2, 1) := by decide +kernel
theorem dX0_gatherTree_57 : decode cX0_gatherTree 57 = .ok (.iload_n 2, 1) := by decide +kernel
theorem dX0_gatherTree_58 : decode cX0_gatherTree 58 = .ok (.aload_n 0, 1) := by decide +kernel
theorem dX0_gatherTree_59 : decode cX0_gatherTree 59 = .ok (.getfield 52, 3) := by decide +kernel
theorem dX0_gatherTree_62 : decode cX0_gatherTree 62 = .ok (.if_icmp .ge 13, 3) := by decide +kernel
theorem dX0_gatherTree_65 : decode cX0_gatherTree 65 = .ok (.aload_n 0, 1) := by decide +kernel
theorem dX0_gatherTree_66 : decode cX0_gatherTree 66 = .ok (.invokevirtual 65, 3) := by decide +kernel
theorem dX0_gatherTree_69 : decode cX0_gatherTree 69 = .ok (.iinc 2 1, 3) := by decide +kernel
theorem dX0_gatherTree_72 : decode cX0_gatherTree 72 = .ok (.goto (-15), 3) := by decide +kernel
theorem dX0_gatherTree_75 : decode cX0_gatherTree 75 = .ok (.return_, 1) := by decide +kernel
theorem dX0_gatherNeighbours_0 : decode cX0_gatherNeighbours 0 = .ok (.iconst 0, 1) := by decide +kernel
theorem dX0_gatherNeighbours_1 : decode cX0_gatherNeighbours 1 = .ok (.istore_n 1, 1) := by decide +kernel
theorem dX0_gatherNeighbours_2 : decode cX0_gatherNeighbours 2 = .ok (.iload_n 1, 1) := by decide +kernel
theorem dX0_gatherNeighbours_3 : decode cX0_gatherNeighbours 3 = .ok (.aload_n 0, 1) := by decide +kernel
theorem dX0_gatherNeighbours_4 : decode cX0_gatherNeighbours 4 = .ok (.getfield 52, 3) := by decide +kernel
theorem dX0_gatherNeighbours_7 : decode cX0_gatherNeighbours 7 = .ok (.if_icmp .ge 71, 3) := by decide +kernel
theorem dX0_gatherNeighbours_10 : decode cX0_gatherNeighbours 10 = .ok (.iconst 0, 1) := by decide +kernel
theorem dX0_gatherNeighbours_11 : decode cX0_gatherNeighbours 11 = .ok (.istore_n 2, 1) := by decide +kernel
theorem dX0_gatherNeighbours_12 : decode cX0_gatherNeighbours 12 = .ok (.iload_n 2, 1) := by decide +kernel
theorem dX0_gatherNeighbours_13 : decode cX0_gatherNeighbours 13 = .ok (.aload_n 0, 1) := by decide +kernel
theorem dX0_gatherNeighbours_14 : decode cX0_gatherNeighbours 14 = .ok (.getfield 52, 3) := by decide +kernel
theorem dX0_gatherNeighbours_17 : decode cX0_gatherNeighbours 17 = .ok (.if_icmp .ge 55, 3) := by decide +kernel
theorem dX0_gatherNeighbours_20 : decode cX0_gatherNeighbours 20 = .ok (.aload_n 0, 1) := by decide +kernel
theorem dX0_gatherNeighbours_21 : decode cX0_gatherNeighbours 21 = .ok (.getfield 9, 3) := by decide +kernel
theorem dX0_gatherNeighbours_24 : decode cX0_gatherNeighbours 24 = .ok (.iload_n 1, 1) := by decide +kernel
theorem dX0_gatherNeighbours_25 : decode cX0_gatherNeighbours 25 = .ok (.baload, 1) := by decide +kernel
theorem dX0_gatherNeighbours_26 : decode cX0_gatherNeighbours 26 = .ok (.ifCond .eq 40, 3) := by decide +kernel
theorem dX0_gatherNeighbours_29 : decode cX0_gatherNeighbours 29 = .ok (.aload_n 0, 1) := by decide +kernel
theorem dX0_gatherNeighbours_30 : decode cX0_gatherNeighbours 30 = .ok (.getfield 9, 3) := by decide +kernel
theorem dX0_gatherNeighbours_33 : decode cX0_gatherNeighbours 33 = .ok (.iload_n 2, 1) := by decide +kernel
theorem dX0_gatherNeighbours_34 : decode cX0_gatherNeighbours 34 = .ok (.baload, 1) := by decide +kernel
theorem dX0_gatherNeighbours_35 : decode cX0_gatherNeighbours 35 = .ok (.ifCond .ne 31, 3) := by decide +kernel
theorem dX0_gatherNeighbours_38 : decode cX0_gatherNeighbours 38 = .ok (.aload_n 0, 1) := by decide +kernel
theorem dX0_gatherNeighbours_39 : decode cX0_gatherNeighbours 39 = .ok (.getfield 24, 3) := by decide +kernel
theorem dX0_gatherNeighbours_42 : decode cX0_gatherNeighbours 42 = .ok (.iload_n 1, 1) := by decide +kernel
theorem dX0_gatherNeighbours_43 : decode cX0_gatherNeighbours 43 = .ok (.aaload, 1) := by decide +kernel
theorem dX0_gatherNeighbours_44 : decode cX0_gatherNeighbours 44 = .ok (.iload_n 2, 1) := by decide +kernel
theorem dX0_gatherNeighbours_45 : decode cX0_gatherNeighbours 45 = .ok (.iaload, 1) := by decide +kernel
theorem dX0_gatherNeighbours_46 : decode cX0_gatherNeighbours 46 = .ok (.ifCond .eq 20, 3) := by decide +kernel
theorem dX0_gatherNeighbours_49 : decode cX0_gatherNeighbours 49 = .ok (.aload_n 0, 1) := by decide +kernel
theorem dX0_gatherNeighbours_50 : decode cX0_gatherNeighbours 50 = .ok (.getfield 9, 3) := by decide +kernel
theorem dX0_gatherNeighbours_53 : decode cX0_gatherNeighbours 53 = .ok (.iload_n 2, 1) := by decide +kernel
theorem dX0_gatherNeighbours_54 : decode cX0_gatherNeighbours 54 = .ok (.iconst 1, 1) := by decide +kernel
theorem dX0_gatherNeighbours_55 : decode cX0_gatherNeighbours 55 = .ok (.bastore, 1) := by decide +kernel
theorem dX0_gatherNeighbours_56 : decode cX0_gatherNeighbours 56 = .ok (.aload_n 0, 1) := by decide +kernel
theorem dX0_gatherNeighbours_57 : decode cX0_gatherNeighbours 57 = .ok (.dup, 1) := by decide +kernel
theorem dX0_gatherNeighbours_58 : decode cX0_gatherNeighbours 58 = .ok (.getfield 39, 3) := by decide +kernel
theorem dX0_gatherNeighbours_61 : decode cX0_gatherNeighbours 61 = .ok (.iconst 1, 1) := by decide +kernel
theorem dX0_gatherNeighbours_62 : decode cX0_gatherNeighbours 62 = .ok (.iadd, 1) := by decide +kernel
theorem dX0_gatherNeighbours_63 : decode cX0_gatherNeighbours 63 = .ok (.putfield 39, 3) := by decide +kernel
theorem dX0_gatherNeighbours_66 : decode cX0_gatherNeighbours 66 = .ok (.iinc 2 1, 3) := by decide +kernel
theorem dX0_gatherNeighbours_69 : decode cX0_gatherNeighbours 69 = .ok (.goto (-57), 3) := by decide +kernel
theorem dX0_gatherNeighbours_72 : decode cX0_gatherNeighbours 72 = .ok (.iinc 1 1, 3) := by decide +kernel
theorem dX0_gatherNeighbours_75 : decode cX0_gatherNeighbours 75 = .ok (.goto (-73), 3) := by decide +kernel
theorem dX0_gatherNeighbours_78 : decode cX0_gatherNeighbours 78 = .ok (.return_, 1) := by decide +kernel
theorem dX0_rake_0 : decode cX0_rake 0 = .ok (.aload_n 0, 1) := by decide +kernel
theorem dX0_rake_1 : decode cX0_rake 1 = .ok (.getfield 39, 3) := by decide +kernel
theorem dX0_rake_4 : decode cX0_rake 4 = .ok (.iconst 2, 1) := by decide +kernel
theorem dX0_rake_5 : decode cX0_rake 5 = .ok (.if_icmp .ne 8, 3) := by decide +kernel
theorem dX0_rake_8 : decode cX0_rake 8 = .ok (.aload_n 0, 1) := by decide +kernel
theorem dX0_rake_9 : decode cX0_rake 9 = .ok (.invokevirtual 68, 3) := by decide +kernel
theorem dX0_rake_12 : decode cX0_rake 12 = .ok (.return_, 1) := by decide +kernel
theorem dX0_rake_13 : decode cX0_rake 13 = .ok (.iconst 0, 1) := by decide +kernel
theorem dX0_rake_14 : decode cX0_rake 14 = .ok (.istore_n 1, 1) := by decide +kernel
theorem dX0_rake_15 : decode cX0_rake 15 = .ok (.iload_n 1, 1) := by decide +kernel
theorem dX0_rake_16 : decode cX0_rake 16 = .ok (.aload_n 0, 1) := by decide +kernel
theorem dX0_rake_17 : decode cX0_rake 17 = .ok (.getfield 52, 3) := by decide +kernel
theorem dX0_rake_20 : decode cX0_rake 20 = .ok (.if_icmp .ge 38, 3) := by decide +kernel
theorem dX0_rake_23 : decode cX0_rake 23 = .ok (.aload_n 0, 1) := by decide +kernel
theorem dX0_rake_24 : decode cX0_rake 24 = .ok (.getfield 15, 3) := by decide +kernel
theorem dX0_rake_27 : decode cX0_rake 27 = .ok (.iload_n 1, 1) := by decide +kernel
theorem dX0_rake_28 : decode cX0_rake 28 = .ok (.aload_n 0, 1) := by decide +kernel
theorem dX0_rake_29 : decode cX0_rake 29 = .ok (.getfield 9, 3) := by decide +kernel
theorem dX0_rake_32 : decode cX0_rake 32 = .ok (.iload_n 1, 1) := by decide +kernel
theorem dX0_rake_33 : decode cX0_rake 33 = .ok (.baload, 1) := by decide +kernel
theorem dX0_rake_34 : decode cX0_rake 34 = .ok (.ifCond .eq 16, 3) := by decide +kernel
theorem dX0_rake_37 : decode cX0_rake 37 = .ok (.aload_n 0, 1) := by decide +kernel
theorem dX0_rake_38 : decode cX0_rake 38 = .ok (.iload_n 1, 1) := by decide +kernel
theorem dX0_rake_39 : decode cX0_rake 39 = .ok (.invokevirtual 71, 3) := by decide +kernel
theorem dX0_rake_42 : decode cX0_rake 42 = .ok (.iconst 1, 1) := by decide +kernel
theorem dX0_rake_43 : decode cX0_rake 43 = .ok (.if_icmp .ne 7, 3) := by decide +kernel
theorem dX0_rake_46 : decode cX0_rake 46 = .ok (.iconst 1, 1) := by decide +kernel
theorem dX0_rake_47 : decode cX0_rake 47 = .ok (.goto 4, 3) := by decide +kernel
theorem dX0_rake_50 : decode cX0_rake 50 = .ok (.iconst 0, 1) := by decide +kernel
theorem dX0_rake_51 : decode cX0_rake 51 = .ok (.bastore, 1) := by decide +kernel
theorem dX0_rake_52 : decode cX0_rake 52 = .ok (.iinc 1 1, 3) := by decide +kernel
theorem dX0_rake_55 : decode cX0_rake 55 = .ok (.goto (-40), 3) := by decide +kernel
theorem dX0_rake_58 : decode cX0_rake 58 = .ok (.iconst 0, 1) := by decide +kernel
theorem dX0_rake_59 : decode cX0_rake 59 = .ok (.istore_n 1, 1) := by decide +kernel
theorem dX0_rake_60 : decode cX0_rake 60 = .ok (.iload_n 1, 1) := by decide +kernel
theorem dX0_rake_61 : decode cX0_rake 61 = .ok (.aload_n 0, 1) := by decide +kernel
theorem dX0_rake_62 : decode cX0_rake 62 = .ok (.getfield 52, 3) := by decide +kernel
theorem dX0_rake_65 : decode cX0_rake 65 = .ok (.if_icmp .ge 23, 3) := by decide +kernel
theorem dX0_rake_68 : decode cX0_rake 68 = .ok (.aload_n 0, 1) := by decide +kernel
theorem dX0_rake_69 : decode cX0_rake 69 = .ok (.getfield 15, 3) := by decide +kernel
theorem dX0_rake_72 : decode cX0_rake 72 = .ok (.iload_n 1, 1) := by decide +kernel
theorem dX0_rake_73 : decode cX0_rake 73 = .ok (.baload, 1) := by decide +kernel
theorem dX0_rake_74 : decode cX0_rake 74 = .ok (.ifCond .eq 8, 3) := by decide +kernel
theorem dX0_rake_77 : decode cX0_rake 77 = .ok (.aload_n 0, 1) := by decide +kernel
theorem dX0_rake_78 : decode cX0_rake 78 = .ok (.iload_n 1, 1) := by decide +kernel
theorem dX0_rake_79 : decode cX0_rake 79 = .ok (.invokevirtual 75, 3) := by decide +kernel
theorem dX0_rake_82 : decode cX0_rake 82 = .ok (.iinc 1 1, 3) := by decide +kernel
theorem dX0_rake_85 : decode cX0_rake 85 = .ok (.goto (-25), 3) := by decide +kernel
theorem dX0_rake_88 : decode cX0_rake 88 = .ok (.return_, 1) := by decide +kernel
theorem dX0_removeGreatest_0 : decode cX0_removeGreatest 0 = .ok (.aload_n 0, 1) := by decide +kernel
theorem dX0_removeGreatest_1 : decode cX0_removeGreatest 1 = .ok (.getfield 52, 3) := by decide +kernel
theorem dX0_removeGreatest_4 : decode cX0_removeGreatest 4 = .ok (.iconst 1, 1) := by decide +kernel
theorem dX0_removeGreatest_5 : decode cX0_removeGreatest 5 = .ok (.isub, 1) := by decide +kernel
theorem dX0_removeGreatest_6 : decode cX0_removeGreatest 6 = .ok (.istore_n 1, 1) := by decide +kernel
theorem dX0_removeGreatest_7 : decode cX0_removeGreatest 7 = .ok (.iload_n 1, 1) := by decide +kernel
theorem dX0_removeGreatest_8 : decode cX0_removeGreatest 8 = .ok (.ifCond .lt 24, 3) := by decide +kernel
theorem dX0_removeGreatest_11 : decode cX0_removeGreatest 11 = .ok (.aload_n 0, 1) := by decide +kernel
theorem dX0_removeGreatest_12 : decode cX0_removeGreatest 12 = .ok (.getfield 9, 3) := by decide +kernel
theorem dX0_removeGreatest_15 : decode cX0_removeGreatest 15 = .ok (.iload_n 1, 1) := by decide +kernel
theorem dX0_removeGreatest_16 : decode cX0_removeGreatest 16 = .ok (.baload, 1) := by decide +kernel
theorem dX0_removeGreatest_17 : decode cX0_removeGreatest 17 = .ok (.ifCond .eq 9, 3) := by decide +kernel
theorem dX0_removeGreatest_20 : decode cX0_removeGreatest 20 = .ok (.aload_n 0, 1) := by decide +kernel
theorem dX0_removeGreatest_21 : decode cX0_removeGreatest 21 = .ok (.iload_n 1, 1) := by decide +kernel
theorem dX0_removeGreatest_22 : decode cX0_removeGreatest 22 = .ok (.invokevirtual 75, 3) := by decide +kernel
theorem dX0_removeGreatest_25 : decode cX0_removeGreatest 25 = .ok (.return_, 1) := by decide +kernel
theorem dX0_removeGreatest_26 : decode cX0_removeGreatest 26 = .ok (.iinc 1 (-1), 3) := by decide +kernel
theorem dX0_removeGreatest_29 : decode cX0_removeGreatest 29 = .ok (.goto (-22), 3) := by decide +kernel
theorem dX0_removeGreatest_32 : decode cX0_removeGreatest 32 = .ok (.return_, 1) := by decide +kernel
theorem dX0_compress_0 : decode cX0_compress 0 = .ok (.aload_n 0, 1) := by decide +kernel
theorem dX0_compress_1 : decode cX0_compress 1 = .ok (.invokevirtual 78, 3) := by decide +kernel
theorem dX0_compress_4 : decode cX0_compress 4 = .ok (.iconst 0, 1) := by decide +kernel
theorem dX0_compress_5 : decode cX0_compress 5 = .ok (.istore_n 1, 1) := by decide +kernel
theorem dX0_compress_6 : decode cX0_compress 6 = .ok (.iload_n 1, 1) := by decide +kernel
theorem dX0_compress_7 : decode cX0_compress 7 = .ok (.aload_n 0, 1) := by decide +kernel
theorem dX0_compress_8 : decode cX0_compress 8 = .ok (.getfield 52, 3) := by decide +kernel
theorem dX0_compress_11 : decode cX0_compress 11 = .ok (.if_icmp .ge 32, 3) := by decide +kernel
theorem dX0_compress_14 : decode cX0_compress 14 = .ok (.aload_n 0, 1) := by decide +kernel
theorem dX0_compress_15 : decode cX0_compress 15 = .ok (.getfield 9, 3) := by decide +kernel
theorem dX0_compress_18 : decode cX0_compress 18 = .ok (.iload_n 1, 1) := by decide +kernel
theorem dX0_compress_19 : decode cX0_compress 19 = .ok (.baload, 1) := by decide +kernel
theorem dX0_compress_20 : decode cX0_compress 20 = .ok (.ifCond .eq 17, 3) := by decide +kernel
theorem dX0_compress_23 : decode cX0_compress 23 = .ok (.aload_n 0, 1) := by decide +kernel
theorem dX0_compress_24 : decode cX0_compress 24 = .ok (.iload_n 1, 1) := by decide +kernel
theorem dX0_compress_25 : decode cX0_compress 25 = .ok (.invokevirtual 71, 3) := by decide +kernel
theorem dX0_compress_28 : decode cX0_compress 28 = .ok (.iconst 2, 1) := by decide +kernel
theorem dX0_compress_29 : decode cX0_compress 29 = .ok (.if_icmp .ne 8, 3) := by decide +kernel
theorem dX0_compress_32 : decode cX0_compress 32 = .ok (.aload_n 0, 1) := by decide +kernel
theorem dX0_compress_33 : decode cX0_compress 33 = .ok (.iload_n 1, 1) := by decide +kernel
theorem dX0_compress_34 : decode cX0_compress 34 = .ok (.invokevirtual 81, 3) := by decide +kernel
theorem dX0_compress_37 : decode cX0_compress 37 = .ok (.iinc 1 1, 3) := by decide +kernel
theorem dX0_compress_40 : decode cX0_compress 40 = .ok (.goto (-34), 3) := by decide +kernel
theorem dX0_compress_43 : decode cX0_compress 43 = .ok (.return_, 1) := by decide +kernel
theorem dX0_makeEdgesOld_0 : decode cX0_makeEdgesOld 0 = .ok (.iconst 0, 1) := by decide +kernel
theorem dX0_makeEdgesOld_1 : decode cX0_makeEdgesOld 1 = .ok (.istore_n 1, 1) := by decide +kernel
theorem dX0_makeEdgesOld_2 : decode cX0_makeEdgesOld 2 = .ok (.iload_n 1, 1) := by decide +kernel
theorem dX0_makeEdgesOld_3 : decode cX0_makeEdgesOld 3 = .ok (.aload_n 0, 1) := by decide +kernel
theorem dX0_makeEdgesOld_4 : decode cX0_makeEdgesOld 4 = .ok (.getfield 52, 3) := by decide +kernel
theorem dX0_makeEdgesOld_7 : decode cX0_makeEdgesOld 7 = .ok (.if_icmp .ge 45, 3) := by decide +kernel
theorem dX0_makeEdgesOld_10 : decode cX0_makeEdgesOld 10 = .ok (.iconst 0, 1) := by decide +kernel
theorem dX0_makeEdgesOld_11 : decode cX0_makeEdgesOld 11 = .ok (.istore_n 2, 1) := by decide +kernel
theorem dX0_makeEdgesOld_12 : decode cX0_makeEdgesOld 12 = .ok (.iload_n 2, 1) := by decide +kernel
theorem dX0_makeEdgesOld_13 : decode cX0_makeEdgesOld 13 = .ok (.aload_n 0, 1) := by decide +kernel
theorem dX0_makeEdgesOld_14 : decode cX0_makeEdgesOld 14 = .ok (.getfield 52, 3) := by decide +kernel
theorem dX0_makeEdgesOld_17 : decode cX0_makeEdgesOld 17 = .ok (.if_icmp .ge 29, 3) := by decide +kernel
theorem dX0_makeEdgesOld_20 : decode cX0_makeEdgesOld 20 = .ok (.aload_n 0, 1) := by decide +kernel
theorem dX0_makeEdgesOld_21 : decode cX0_makeEdgesOld 21 = .ok (.getfield 24, 3) := by decide +kernel
theorem dX0_makeEdgesOld_24 : decode cX0_makeEdgesOld 24 = .ok (.iload_n 1, 1) := by decide +kernel
theorem dX0_makeEdgesOld_25 : decode cX0_makeEdgesOld 25 = .ok (.aaload, 1) := by decide +kernel
theorem dX0_makeEdgesOld_26 : decode cX0_makeEdgesOld 26 = .ok (.iload_n 2, 1) := by decide +kernel
theorem dX0_makeEdgesOld_27 : decode cX0_makeEdgesOld 27 = .ok (.aload_n 0, 1) := by decide +kernel
theorem dX0_makeEdgesOld_28 : decode cX0_makeEdgesOld 28 = .ok (.getfield 24, 3) := by decide +kernel
theorem dX0_makeEdgesOld_31 : decode cX0_makeEdgesOld 31 = .ok (.iload_n 1, 1) := by decide +kernel
theorem dX0_makeEdgesOld_32 : decode cX0_makeEdgesOld 32 = .ok (.aaload, 1) := by decide +kernel
theorem dX0_makeEdgesOld_33 : decode cX0_makeEdgesOld 33 = .ok (.iload_n 2, 1) := by decide +kernel
theorem dX0_makeEdgesOld_34 : decode cX0_makeEdgesOld 34 = .ok (.iaload, 1) := by decide +kernel
theorem dX0_makeEdgesOld_35 : decode cX0_makeEdgesOld 35 = .ok (.iconst 1, 1) := by decide +kernel
theorem dX0_makeEdgesOld_36 : decode cX0_makeEdgesOld 36 = .ok (.invokestatic 84, 3) := by decide +kernel
theorem dX0_makeEdgesOld_39 : decode cX0_makeEdgesOld 39 = .ok (.iastore, 1) := by decide +kernel
theorem dX0_makeEdgesOld_40 : decode cX0_makeEdgesOld 40 = .ok (.iinc 2 1, 3) := by decide +kernel
theorem dX0_makeEdgesOld_43 : decode cX0_makeEdgesOld 43 = .ok (.goto (-31), 3) := by decide +kernel
theorem dX0_makeEdgesOld_46 : decode cX0_makeEdgesOld 46 = .ok (.iinc 1 1, 3) := by decide +kernel
theorem dX0_makeEdgesOld_49 : decode cX0_makeEdgesOld 49 = .ok (.goto (-47), 3) := by decide +kernel
theorem dX0_makeEdgesOld_52 : decode cX0_makeEdgesOld 52 = .ok (.return_, 1) := by decide +kernel
theorem dX0_bypass_0 : decode cX0_bypass 0 = .ok (.aload_n 0, 1) := by decide +kernel
theorem dX0_bypass_1 : decode cX0_bypass 1 = .ok (.iload_n 1, 1) := by decide +kernel
theorem dX0_bypass_2 : decode cX0_bypass 2 = .ok (.iconst (-1), 1) := by decide +kernel
theorem dX0_bypass_3 : decode cX0_bypass 3 = .ok (.invokevirtual 89, 3) := by decide +kernel
theorem dX0_bypass_6 : decode cX0_bypass 6 = .ok (.istore_n 2, 1) := by decide +kernel
theorem dX0_bypass_7 : decode cX0_bypass 7 = .ok (.aload_n 0, 1) := by decide +kernel
theorem dX0_bypass_8 : decode cX0_bypass 8 = .ok (.iload_n 1, 1) := by decide +kernel
theorem dX0_bypass_9 : decode cX0_bypass 9 = .ok (.iload_n 2, 1) := by decide +kernel
theorem dX0_bypass_10 : decode cX0_bypass 10 = .ok (.invokevirtual 89, 3) := by decide +kernel
theorem dX0_bypass_13 : decode cX0_bypass 13 = .ok (.istore_n 3, 1) := by decide +kernel
theorem dX0_bypass_14 : decode cX0_bypass 14 = .ok (.aload_n 0, 1) := by decide +kernel
theorem dX0_bypass_15 : decode cX0_bypass 15 = .ok (.iload_n 2, 1) := by decide +kernel
theorem dX0_bypass_16 : decode cX0_bypass 16 = .ok (.invokevirtual 48, 3) := by decide +kernel
theorem dX0_bypass_19 : decode cX0_bypass 19 = .ok (.ifCond .eq 11, 3) := by decide +kernel
theorem dX0_bypass_22 : decode cX0_bypass 22 = .ok (.aload_n 0, 1) := by decide +kernel
theorem dX0_bypass_23 : decode cX0_bypass 23 = .ok (.iload_n 3, 1) := by decide +kernel
theorem dX0_bypass_24 : decode cX0_bypass 24 = .ok (.invokevirtual 48, 3) := by decide +kernel
theorem dX0_bypass_27 : decode cX0_bypass 27 = .ok (.ifCond .ne 4, 3) := by decide +kernel
theorem dX0_bypass_30 : decode cX0_bypass 30 = .ok (.return_, 1) := by decide +kernel
theorem dX0_bypass_31 : decode cX0_bypass 31 = .ok (.aload_n 0, 1) := by decide +kernel
theorem dX0_bypass_32 : decode cX0_bypass 32 = .ok (.getfield 24, 3) := by decide +kernel
theorem dX0_bypass_35 : decode cX0_bypass 35 = .ok (.iload_n 1, 1) := by decide +kernel
theorem dX0_bypass_36 : decode cX0_bypass 36 = .ok (.aaload, 1) := by decide +kernel
theorem dX0_bypass_37 : decode cX0_bypass 37 = .ok (.iload_n 2, 1) := by decide +kernel
theorem dX0_bypass_38 : decode cX0_bypass 38 = .ok (.iaload, 1) := by decide +kernel
theorem dX0_bypass_39 : decode cX0_bypass 39 = .ok (.iconst 2, 1) := by decide +kernel
theorem dX0_bypass_40 : decode cX0_bypass 40 = .ok (.if_icmp .eq 15, 3) := by decide +kernel
theorem dX0_bypass_43 : decode cX0_bypass 43 = .ok (.aload_n 0, 1) := by decide +kernel
theorem dX0_bypass_44 : decode cX0_bypass 44 = .ok (.getfield 24, 3) := by decide +kernel
theorem dX0_bypass_47 : decode cX0_bypass 47 = .ok (.iload_n 1, 1) := by decide +kernel
theorem dX0_bypass_48 : decode cX0_bypass 48 = .ok (.aaload, 1) := by decide +kernel
theorem dX0_bypass_49 : decode cX0_bypass 49 = .ok (.iload_n 3, 1) := by decide +kernel
theorem dX0_bypass_50 : decode cX0_bypass 50 = .ok (.iaload, 1) := by decide +kernel
theorem dX0_bypass_51 : decode cX0_bypass 51 = .ok (.iconst 2, 1) := by decide +kernel
theorem dX0_bypass_52 : decode cX0_bypass 52 = .ok (.if_icmp .ne 4, 3) := by decide +kernel
theorem dX0_bypass_55 : decode cX0_bypass 55 = .ok (.return_, 1) := by decide +kernel
theorem dX0_bypass_56 : decode cX0_bypass 56 = .ok (.aload_n 0, 1) := by decide +kernel
theorem dX0_bypass_57 : decode cX0_bypass 57 = .ok (.iload_n 1, 1) := by decide +kernel
theorem dX0_bypass_58 : decode cX0_bypass 58 = .ok (.invokevirtual 75, 3) := by decide +kernel
theorem dX0_bypass_61 : decode cX0_bypass 61 = .ok (.aload_n 0, 1) := by decide +kernel
theorem dX0_bypass_62 : decode cX0_bypass 62 = .ok (.getfield 24, 3) := by decide +kernel
theorem dX0_bypass_65 : decode cX0_bypass 65 = .ok (.iload_n 2, 1) := by decide +kernel
theorem dX0_bypass_66 : decode cX0_bypass 66 = .ok (.aaload, 1) := by decide +kernel
theorem dX0_bypass_67 : decode cX0_bypass 67 = .ok (.iload_n 3, 1) := by decide +kernel
theorem dX0_bypass_68 : decode cX0_bypass 68 = .ok (.iconst 2, 1) := by decide +kernel
theorem dX0_bypass_69 : decode cX0_bypass 69 = .ok (.iastore, 1) := by decide +kernel
theorem dX0_bypass_70 : decode cX0_bypass 70 = .ok (.aload_n 0, 1) := by decide +kernel
theorem dX0_bypass_71 : decode cX0_bypass 71 = .ok (.getfield 24, 3) := by decide +kernel
theorem dX0_bypass_74 : decode cX0_bypass 74 = .ok (.iload_n 3, 1) := by decide +kernel
theorem dX0_bypass_75 : decode cX0_bypass 75 = .ok (.aaload, 1) := by decide +kernel
theorem dX0_bypass_76 : decode cX0_bypass 76 = .ok (.iload_n 2, 1) := by decide +kernel
theorem dX0_bypass_77 : decode cX0_bypass 77 = .ok (.iconst 2, 1) := by decide +kernel
theorem dX0_bypass_78 : decode cX0_bypass 78 = .ok (.iastore, 1) := by decide +kernel
theorem dX0_bypass_79 : decode cX0_bypass 79 = .ok (.return_, 1) := by decide +kernel
theorem dX0_neighbourAfter_0 : decode cX0_neighbourAfter 0 = .ok (.iload_n 2, 1) := by decide +kernel
theorem dX0_neighbourAfter_1 : decode cX0_neighbourAfter 1 = .ok (.iconst 1, 1) := by decide +kernel
theorem dX0_neighbourAfter_2 : decode cX0_neighbourAfter 2 = .ok (.iadd, 1) := by decide +kernel
theorem dX0_neighbourAfter_3 : decode cX0_neighbourAfter 3 = .ok (.istore_n 3, 1) := by decide +kernel
theorem dX0_neighbourAfter_4 : decode cX0_neighbourAfter 4 = .ok (.iload_n 3, 1) := by decide +kernel
theorem dX0_neighbourAfter_5 : decode cX0_neighbourAfter 5 = .ok (.aload_n 0, 1) := by decide +kernel
theorem dX0_neighbourAfter_6 : decode cX0_neighbourAfter 6 = .ok (.getfield 52, 3) := by decide +kernel
theorem dX0_neighbourAfter_9 : decode cX0_neighbourAfter 9 = .ok (.if_icmp .ge 26, 3) := by decide +kernel
theorem dX0_neighbourAfter_12 : decode cX0_neighbourAfter 12 = .ok (.iload_n 3, 1) := by decide +kernel
theorem dX0_neighbourAfter_13 : decode cX0_neighbourAfter 13 = .ok (.ifCond .lt 16, 3) := by decide +kernel
theorem dX0_neighbourAfter_16 : decode cX0_neighbourAfter 16 = .ok (.aload_n 0, 1) := by decide +kernel
theorem dX0_neighbourAfter_17 : decode cX0_neighbourAfter 17 = .ok (.getfield 24, 3) := by decide +kernel
theorem dX0_neighbourAfter_20 : decode cX0_neighbourAfter 20 = .ok (.iload_n 1, 1) := by decide +kernel
theorem dX0_neighbourAfter_21 : decode cX0_neighbourAfter 21 = .ok (.aaload, 1) := by decide +kernel
theorem dX0_neighbourAfter_22 : decode cX0_neighbourAfter 22 = .ok (.iload_n 3, 1) := by decide +kernel
theorem dX0_neighbourAfter_23 : decode cX0_neighbourAfter 23 = .ok (.iaload, 1) := by decide +kernel
theorem dX0_neighbourAfter_24 : decode cX0_neighbourAfter 24 = .ok (.ifCond .eq 5, 3) := by decide +kernel
theorem dX0_neighbourAfter_27 : decode cX0_neighbourAfter 27 = .ok (.iload_n 3, 1) := by decide +kernel
theorem dX0_neighbourAfter_28 : decode cX0_neighbourAfter 28 = .ok (.ireturn, 1) := by decide +kernel
theorem dX0_neighbourAfter_29 : decode cX0_neighbourAfter 29 = .ok (.iinc 3 1, 3) := by decide +kernel
theorem dX0_neighbourAfter_32 : decode cX0_neighbourAfter 32 = .ok (.goto (-28), 3) := by decide +kernel
theorem dX0_neighbourAfter_35 : decode cX0_neighbourAfter 35 = .ok (.bipush (-9), 2) := by decide +kernel
theorem dX0_neighbourAfter_37 : decode cX0_neighbourAfter 37 = .ok (.ireturn, 1) := by decide +kernel
theorem dX0_degreeOf_0 : decode cX0_degreeOf 0 = .ok (.iconst 0, 1) := by decide +kernel
theorem dX0_degreeOf_1 : decode cX0_degreeOf 1 = .ok (.istore_n 2, 1) := by decide +kernel
theorem dX0_degreeOf_2 : decode cX0_degreeOf 2 = .ok (.iconst 0, 1) := by decide +kernel
theorem dX0_degreeOf_3 : decode cX0_degreeOf 3 = .ok (.istore_n 3, 1) := by decide +kernel
theorem dX0_degreeOf_4 : decode cX0_degreeOf 4 = .ok (.iload_n 3, 1) := by decide +kernel
theorem dX0_degreeOf_5 : decode cX0_degreeOf 5 = .ok (.aload_n 0, 1) := by decide +kernel
theorem dX0_degreeOf_6 : decode cX0_degreeOf 6 = .ok (.getfield 52, 3) := by decide +kernel
theorem dX0_degreeOf_9 : decode cX0_degreeOf 9 = .ok (.if_icmp .ge 23, 3) := by decide +kernel
theorem dX0_degreeOf_12 : decode cX0_degreeOf 12 = .ok (.aload_n 0, 1) := by decide +kernel
theorem dX0_degreeOf_13 : decode cX0_degreeOf 13 = .ok (.getfield 24, 3) := by decide +kernel
theorem dX0_degreeOf_16 : decode cX0_degreeOf 16 = .ok (.iload_n 1, 1) := by decide +kernel
theorem dX0_degreeOf_17 : decode cX0_degreeOf 17 = .ok (.aaload, 1) := by decide +kernel
theorem dX0_degreeOf_18 : decode cX0_degreeOf 18 = .ok (.iload_n 3, 1) := by decide +kernel
theorem dX0_degreeOf_19 : decode cX0_degreeOf 19 = .ok (.iaload, 1) := by decide +kernel
theorem dX0_degreeOf_20 : decode cX0_degreeOf 20 = .ok (.ifCond .eq 6, 3) := by decide +kernel
theorem dX0_degreeOf_23 : decode cX0_degreeOf 23 = .ok (.iinc 2 1, 3) := by decide +kernel
theorem dX0_degreeOf_26 : decode cX0_degreeOf 26 = .ok (.iinc 3 1, 3) := by decide +kernel
theorem dX0_degreeOf_29 : decode cX0_degreeOf 29 = .ok (.goto (-25), 3) := by decide +kernel
theorem dX0_degreeOf_32 : decode cX0_degreeOf 32 = .ok (.iload_n 2, 1) := by decide +kernel
theorem dX0_degreeOf_33 : decode cX0_degreeOf 33 = .ok (.ireturn, 1) := by decide +kernel
theorem dX0_remove_0 : decode cX0_remove 0 = .ok (.aload_n 0, 1) := by decide +kernel
theorem dX0_remove_1 : decode cX0_remove 1 = .ok (.getfield 9, 3) := by decide +kernel
theorem dX0_remove_4 : decode cX0_remove 4 = .ok (.iload_n 1, 1) := by decide +kernel
theorem dX0_remove_5 : decode cX0_remove 5 = .ok (.iconst 0, 1) := by decide +kernel
theorem dX0_remove_6 : decode cX0_remove 6 = .ok (.bastore, 1) := by decide +kernel
theorem dX0_remove_7 : decode cX0_remove 7 = .ok (.aload_n 0, 1) := by decide +kernel
theorem dX0_remove_8 : decode cX0_remove 8 = .ok (.getfield 18, 3) := by decide +kernel
theorem dX0_remove_11 : decode cX0_remove 11 = .ok (.iload_n 1, 1) := by decide +kernel
theorem dX0_remove_12 : decode cX0_remove 12 = .ok (.aload_n 0, 1) := by decide +kernel
theorem dX0_remove_13 : decode cX0_remove 13 = .ok (.getfield 35, 3) := by decide +kernel
theorem dX0_remove_16 : decode cX0_remove 16 = .ok (.iastore, 1) := by decide +kernel
theorem dX0_remove_17 : decode cX0_remove 17 = .ok (.aload_n 0, 1) := by decide +kernel
theorem dX0_remove_18 : decode cX0_remove 18 = .ok (.dup, 1) := by decide +kernel
theorem dX0_remove_19 : decode cX0_remove 19 = .ok (.getfield 39, 3) := by decide +kernel
theorem dX0_remove_22 : decode cX0_remove 22 = .ok (.iconst 1, 1) := by decide +kernel
theorem dX0_remove_23 : decode cX0_remove 23 = .ok (.isub, 1) := by decide +kernel
theorem dX0_remove_24 : decode cX0_remove 24 = .ok (.putfield 39, 3) := by decide +kernel
theorem dX0_remove_27 : decode cX0_remove 27 = .ok (.iconst 0, 1) := by decide +kernel
theorem dX0_remove_28 : decode cX0_remove 28 = .ok (.istore_n 2, 1) := by decide +kernel
theorem dX0_remove_29 : decode cX0_remove 29 = .ok (.iload_n 2, 1) := by decide +kernel
theorem dX0_remove_30 : decode cX0_remove 30 = .ok (.aload_n 0, 1) := by decide +kernel
theorem dX0_remove_31 : decode cX0_remove 31 = .ok (.getfield 52, 3) := by decide +kernel
theorem dX0_remove_34 : decode cX0_remove 34 = .ok (.if_icmp .ge 27, 3) := by decide +kernel
theorem dX0_remove_37 : decode cX0_remove 37 = .ok (.aload_n 0, 1) := by decide +kernel
theorem dX0_remove_38 : decode cX0_remove 38 = .ok (.getfield 24, 3) := by decide +kernel
theorem dX0_remove_41 : decode cX0_remove 41 = .ok (.iload_n 2, 1) := by decide +kernel
theorem dX0_remove_42 : decode cX0_remove 42 = .ok (.aaload, 1) := by decide +kernel
theorem dX0_remove_43 : decode cX0_remove 43 = .ok (.iload_n 1, 1) := by decide +kernel
theorem dX0_remove_44 : decode cX0_remove 44 = .ok (.iconst 0, 1) := by decide +kernel
theorem dX0_remove_45 : decode cX0_remove 45 = .ok (.iastore, 1) := by decide +kernel
theorem dX0_remove_46 : decode cX0_remove 46 = .ok (.aload_n 0, 1) := by decide +kernel
theorem dX0_remove_47 : decode cX0_remove 47 = .ok (.getfield 24, 3) := by decide +kernel
theorem dX0_remove_50 : decode cX0_remove 50 = .ok (.iload_n 1, 1) := by decide +kernel
theorem dX0_remove_51 : decode cX0_remove 51 = .ok (.aaload, 1) := by decide +kernel
theorem dX0_remove_52 : decode cX0_remove 52 = .ok (.iload_n 2, 1) := by decide +kernel
theorem dX0_remove_53 : decode cX0_remove 53 = .ok (.iconst 0, 1) := by decide +kernel
theorem dX0_remove_54 : decode cX0_remove 54 = .ok (.iastore, 1) := by decide +kernel
theorem dX0_remove_55 : decode cX0_remove 55 = .ok (.iinc 2 1, 3) := by decide +kernel
theorem dX0_remove_58 : decode cX0_remove 58 = .ok (.goto (-29), 3) := by decide +kernel
theorem dX0_remove_61 : decode cX0_remove 61 = .ok (.return_, 1) := by decide +kernel
theorem dX1_init_0 : decode cX1_init 0 = .ok (.aload_n 0, 1) := by decide +kernel
theorem dX1_init_1 : decode cX1_init 1 = .ok (.invokespecial 3, 3) := by decide +kernel
theorem dX1_init_4 : decode cX1_init 4 = .ok (.aload_n 0, 1) := by decide +kernel
theorem dX1_init_5 : decode cX1_init 5 = .ok (.bipush 12, 2) := by decide +kernel
theorem dX1_init_7 : decode cX1_init 7 = .ok (.newarray .int, 2) := by decide +kernel
theorem dX1_init_9 : decode cX1_init 9 = .ok (.putfield 9, 3) := by decide +kernel
theorem dX1_init_12 : decode cX1_init 12 = .ok (.aload_n 0, 1) := by decide +kernel
theorem dX1_init_13 : decode cX1_init 13 = .ok (.bipush 12, 2) := by decide +kernel
theorem dX1_init_15 : decode cX1_init 15 = .ok (.bipush 12, 2) := by decide +kernel
theorem dX1_init_17 : decode cX1_init 17 = .ok (.multianewarray 15 2, 4) := by decide +kernel
theorem dX1_init_21 : decode cX1_init 21 = .ok (.putfield 17, 3) := by decide +kernel
theorem dX1_init_24 : decode cX1_init 24 = .ok (.aload_n 0, 1) := by decide +kernel
theorem dX1_init_25 : decode cX1_init 25 = .ok (.bipush 12, 2) := by decide +kernel
theorem dX1_init_27 : decode cX1_init 27 = .ok (.invokevirtual 20, 3) := by decide +kernel
theorem dX1_init_30 : decode cX1_init 30 = .ok (.return_, 1) := by decide +kernel
theorem dX1_reset_0 : decode cX1_reset 0 = .ok (.aload_n 0, 1) := by decide +kernel
theorem dX1_reset_1 : decode cX1_reset 1 = .ok (.iconst 1, 1) := by decide +kernel
theorem dX1_reset_2 : decode cX1_reset 2 = .ok (.iload_n 1, 1) := by decide +kernel
theorem dX1_reset_3 : decode cX1_reset 3 = .ok (.bipush 12, 2) := by decide +kernel
theorem dX1_reset_5 : decode cX1_reset 5 = .ok (.invokestatic 24, 3) := by decide +kernel
theorem dX1_reset_8 : decode cX1_reset 8 = .ok (.invokestatic 30, 3) := by decide +kernel
theorem dX1_reset_11 : decode cX1_reset 11 = .ok (.putfield 33, 3) := by decide +kernel
theorem dX1_reset_14 : decode cX1_reset 14 = .ok (.aload_n 0, 1) := by decide +kernel
theorem dX1_reset_15 : decode cX1_reset 15 = .ok (.getfield 9, 3) := by decide +kernel
theorem dX1_reset_18 : decode cX1_reset 18 = .ok (.iconst 1, 1) := by decide +kernel
theorem dX1_reset_19 : decode cX1_reset 19 = .ok (.invokestatic 37, 3) := by decide +kernel
theorem dX1_reset_22 : decode cX1_reset 22 = .ok (.iconst 0, 1) := by decide +kernel
theorem dX1_reset_23 : decode cX1_reset 23 = .ok (.istore_n 2, 1) := by decide +kernel
theorem dX1_reset_24 : decode cX1_reset 24 = .ok (.iload_n 2, 1) := by decide +kernel
theorem dX1_reset_25 : decode cX1_reset 25 = .ok (.bipush 12, 2) := by decide +kernel
theorem dX1_reset_27 : decode cX1_reset 27 = .ok (.if_icmp .ge 19, 3) := by decide +kernel
theorem dX1_reset_30 : decode cX1_reset 30 = .ok (.aload_n 0, 1) := by decide +kernel
theorem dX1_reset_31 : decode cX1_reset 31 = .ok (.getfield 17, 3) := by decide +kernel
theorem dX1_reset_34 : decode cX1_reset 34 = .ok (.iload_n 2, 1) := by decide +kernel
theorem dX1_reset_35 : decode cX1_reset 35 = .ok (.aaload, 1) := by decide +kernel
theorem dX1_reset_36 : decode cX1_reset 36 = .ok (.iconst 0, 1) := by decide +kernel
theorem dX1_reset_37 : decode cX1_reset 37 = .ok (.invokestatic 37, 3) := by decide +kernel
theorem dX1_reset_40 : decode cX1_reset 40 = .ok (.iinc 2 1, 3) := by decide +kernel
theorem dX1_reset_43 : decode cX1_reset 43 = .ok (.goto (-19), 3) := by decide +kernel
theorem dX1_reset_46 : decode cX1_reset 46 = .ok (.return_, 1) := by decide +kernel
theorem dX1_become_0 : decode cX1_become 0 = .ok (.aload_n 0, 1) := by decide +kernel
theorem dX1_become_1 : decode cX1_become 1 = .ok (.aload_n 1, 1) := by decide +kernel
theorem dX1_become_2 : decode cX1_become 2 = .ok (.getfield 33, 3) := by decide +kernel
theorem dX1_become_5 : decode cX1_become 5 = .ok (.putfield 33, 3) := by decide +kernel
theorem dX1_become_8 : decode cX1_become 8 = .ok (.aload_n 1, 1) := by decide +kernel
theorem dX1_become_9 : decode cX1_become 9 = .ok (.getfield 9, 3) := by decide +kernel
theorem dX1_become_12 : decode cX1_become 12 = .ok (.iconst 0, 1) := by decide +kernel
theorem dX1_become_13 : decode cX1_become 13 = .ok (.aload_n 0, 1) := by decide +kernel
theorem dX1_become_14 : decode cX1_become 14 = .ok (.getfield 9, 3) := by decide +kernel
theorem dX1_become_17 : decode cX1_become 17 = .ok (.iconst 0, 1) := by decide +kernel
theorem dX1_become_18 : decode cX1_become 18 = .ok (.bipush 12, 2) := by decide +kernel
theorem dX1_become_20 : decode cX1_become 20 = .ok (.invokestatic 43, 3) := by decide +kernel
theorem dX1_become_23 : decode cX1_become 23 = .ok (.iconst 0, 1) := by decide +kernel
theorem dX1_become_24 : decode cX1_become 24 = .ok (.istore_n 2, 1) := by decide +kernel
theorem dX1_become_25 : decode cX1_become 25 = .ok (.iload_n 2, 1) := by decide +kernel
theorem dX1_become_26 : decode cX1_become 26 = .ok (.bipush 12, 2) := by decide +kernel
theorem dX1_become_28 : decode cX1_become 28 = .ok (.if_icmp .ge 28, 3) := by decide +kernel
theorem dX1_become_31 : decode cX1_become 31 = .ok (.aload_n 1, 1) := by decide +kernel
theorem dX1_become_32 : decode cX1_become 32 = .ok (.getfield 17, 3) := by decide +kernel
theorem dX1_become_35 : decode cX1_become 35 = .ok (.iload_n 2, 1) := by decide +kernel
theorem dX1_become_36 : decode cX1_become 36 = .ok (.aaload, 1) := by decide +kernel
theorem dX1_become_37 : decode cX1_become 37 = .ok (.iconst 0, 1) := by decide +kernel
theorem dX1_become_38 : decode cX1_become 38 = .ok (.aload_n 0, 1) := by decide +kernel
theorem dX1_become_39 : decode cX1_become 39 = .ok (.getfield 17, 3) := by decide +kernel
theorem dX1_become_42 : decode cX1_become 42 = .ok (.iload_n 2, 1) := by decide +kernel
theorem dX1_become_43 : decode cX1_become 43 = .ok (.aaload, 1) := by decide +kernel
theorem dX1_become_44 : decode cX1_become 44 = .ok (.iconst 0, 1) := by decide +kernel
theorem dX1_become_45 : decode cX1_become 45 = .ok (.bipush 12, 2) := by decide +kernel
theorem dX1_become_47 : decode cX1_become 47 = .ok (.invokestatic 43, 3) := by decide +kernel
theorem dX1_become_50 : decode cX1_become 50 = .ok (.iinc 2 1, 3) := by decide +kernel
theorem dX1_become_53 : decode cX1_become 53 = .ok (.goto (-28), 3) := by decide +kernel
theorem dX1_become_56 : decode cX1_become 56 = .ok (.return_, 1) := by decide +kernel
theorem dX1_vertices_0 : decode cX1_vertices 0 = .ok (.aload_n 0, 1) := by decide +kernel
theorem dX1_vertices_1 : decode cX1_vertices 1 = .ok (.getfield 33, 3) := by decide +kernel
theorem dX1_vertices_4 : decode cX1_vertices 4 = .ok (.ireturn, 1) := by decide +kernel
theorem dX1_hasVertex_0 : decode cX1_hasVertex 0 = .ok (.iload_n 1, 1) := by decide +kernel
theorem dX1_hasVertex_1 : decode cX1_hasVertex 1 = .ok (.ifCond .lt 15, 3) := by decide +kernel
theorem dX1_hasVertex_4 : decode cX1_hasVertex 4 = .ok (.iload_n 1, 1) := by decide +kernel
theorem dX1_hasVertex_5 : decode cX1_hasVertex 5 = .ok (.aload_n 0, 1) := by decide +kernel
theorem dX1_hasVertex_6 : decode cX1_hasVertex 6 = .ok (.getfield 33, 3) := by decide +kernel
theorem dX1_hasVertex_9 : decode cX1_hasVertex 9 = .ok (.if_icmp .ge 7, 3) := by decide +kernel
theorem dX1_hasVertex_12 : decode cX1_hasVertex 12 = .ok (.iconst 1, 1) := by decide +kernel
theorem dX1_hasVertex_13 : decode cX1_hasVertex 13 = .ok (.goto 4, 3) := by decide +kernel
theorem dX1_hasVertex_16 : decode cX1_hasVertex 16 = .ok (.iconst 0, 1) := by decide +kernel
theorem dX1_hasVertex_17 : decode cX1_hasVertex 17 = .ok (.ireturn, 1) := by decide +kernel
theorem dX1_hasVertices_0 : decode cX1_hasVertices 0 = .ok (.iload_n 1, 1) := by decide +kernel
theorem dX1_hasVertices_1 : decode cX1_hasVertices 1 = .ok (.ifCond .lt 27, 3) := by decide +kernel
theorem dX1_hasVertices_4 : decode cX1_hasVertices 4 = .ok (.iload_n 1, 1) := by decide +kernel
theorem dX1_hasVertices_5 : decode cX1_hasVertices 5 = .ok (.aload_n 0, 1) := by decide +kernel
theorem dX1_hasVertices_6 : decode cX1_hasVertices 6 = .ok (.getfield 33, 3) := by decide +kernel
theorem dX1_hasVertices_9 : decode cX1_hasVertices 9 = .ok (.if_icmp .ge 19, 3) := by decide +kernel
theorem dX1_hasVertices_12 : decode cX1_hasVertices 12 = .ok (.iload_n 2, 1) := by decide +kernel
theorem dX1_hasVertices_13 : decode cX1_hasVertices 13 = .ok (.ifCond .lt 15, 3) := by decide +kernel
theorem dX1_hasVertices_16 : decode cX1_hasVertices 16 = .ok (.iload_n 2, 1) := by decide +kernel
theorem dX1_hasVertices_17 : decode cX1_hasVertices 17 = .ok (.aload_n 0, 1) := by decide +kernel
theorem dX1_hasVertices_18 : decode cX1_hasVertices 18 = .ok (.getfield 33, 3) := by decide +kernel
theorem dX1_hasVertices_21 : decode cX1_hasVertices 21 = .ok (.if_icmp .ge 7, 3) := by decide +kernel
theorem dX1_hasVertices_24 : decode cX1_hasVertices 24 = .ok (.iconst 1, 1) := by decide +kernel
theorem dX1_hasVertices_25 : decode cX1_hasVertices 25 = .ok (.goto 4, 3) := by decide +kernel
theorem dX1_hasVertices_28 : decode cX1_hasVertices 28 = .ok (.iconst 0, 1) := by decide +kernel
theorem dX1_hasVertices_29 : decode cX1_hasVertices 29 = .ok (.ireturn, 1) := by decide +kernel
theorem dX1_weightOf_0 : decode cX1_weightOf 0 = .ok (.aload_n 0, 1) := by decide +kernel
theorem dX1_weightOf_1 : decode cX1_weightOf 1 = .ok (.iload_n 1, 1) := by decide +kernel
theorem dX1_weightOf_2 : decode cX1_weightOf 2 = .ok (.invokevirtual 49, 3) := by decide +kernel
theorem dX1_weightOf_5 : decode cX1_weightOf 5 = .ok (.ifCond .eq 12, 3) := by decide +kernel
theorem dX1_weightOf_8 : decode cX1_weightOf 8 = .ok (.aload_n 0, 1) := by decide +kernel
theorem dX1_weightOf_9 : decode cX1_weightOf 9 = .ok (.getfield 9, 3) := by decide +kernel
theorem dX1_weightOf_12 : decode cX1_weightOf 12 = .ok (.iload_n 1, 1) := by decide +kernel
theorem dX1_weightOf_13 : decode cX1_weightOf 13 = .ok (.iaload, 1) := by decide +kernel
theorem dX1_weightOf_14 : decode cX1_weightOf 14 = .ok (.goto 4, 3) := by decide +kernel
theorem dX1_weightOf_17 : decode cX1_weightOf 17 = .ok (.iconst 0, 1) := by decide +kernel
theorem dX1_weightOf_18 : decode cX1_weightOf 18 = .ok (.ireturn, 1) := by decide +kernel
theorem dX1_putWeight_0 : decode cX1_putWeight 0 = .ok (.aload_n 0, 1) := by decide +kernel
theorem dX1_putWeight_1 : decode cX1_putWeight 1 = .ok (.iload_n 1, 1) := by decide +kernel
theorem dX1_putWeight_2 : decode cX1_putWeight 2 = .ok (.invokevirtual 49, 3) := by decide +kernel
theorem dX1_putWeight_5 : decode cX1_putWeight 5 = .ok (.ifCond .eq 10, 3) := by decide +kernel
theorem dX1_putWeight_8 : decode cX1_putWeight 8 = .ok (.aload_n 0, 1) := by decide +kernel
theorem dX1_putWeight_9 : decode cX1_putWeight 9 = .ok (.getfield 9, 3) := by decide +kernel
theorem dX1_putWeight_12 : decode cX1_putWeight 12 = .ok (.iload_n 1, 1) := by decide +kernel
theorem dX1_putWeight_13 : decode cX1_putWeight 13 = .ok (.iload_n 2, 1) := by decide +kernel
theorem dX1_putWeight_14 : decode cX1_putWeight 14 = .ok (.iastore, 1) := by decide +kernel
theorem dX1_putWeight_15 : decode cX1_putWeight 15 = .ok (.return_, 1) := by decide +kernel
theorem dX1_hasEdge_0 : decode cX1_hasEdge 0 = .ok (.aload_n 0, 1) := by decide +kernel
theorem dX1_hasEdge_1 : decode cX1_hasEdge 1 = .ok (.iload_n 1, 1) := by decide +kernel
theorem dX1_hasEdge_2 : decode cX1_hasEdge 2 = .ok (.iload_n 2, 1) := by decide +kernel
theorem dX1_hasEdge_3 : decode cX1_hasEdge 3 = .ok (.invokevirtual 53, 3) := by decide +kernel
theorem dX1_hasEdge_6 : decode cX1_hasEdge 6 = .ok (.ifCond .eq 7, 3) := by decide +kernel
theorem dX1_hasEdge_9 : decode cX1_hasEdge 9 = .ok (.iconst 1, 1) := by decide +kernel
theorem dX1_hasEdge_10 : decode cX1_hasEdge 10 = .ok (.goto 4, 3) := by decide +kernel
theorem dX1_hasEdge_13 : decode cX1_hasEdge 13 = .ok (.iconst 0, 1) := by decide +kernel
theorem dX1_hasEdge_14 : decode cX1_hasEdge 14 = .ok (.ireturn, 1) := by decide +kernel
theorem dX1_edgeBetween_0 : decode cX1_edgeBetween 0 = .ok (.aload_n 0, 1) := by decide +kernel
theorem dX1_edgeBetween_1 : decode cX1_edgeBetween 1 = .ok (.iload_n 1, 1) := by decide +kernel
theorem dX1_edgeBetween_2 : decode cX1_edgeBetween 2 = .ok (.iload_n 2, 1) := by decide +kernel
theorem dX1_edgeBetween_3 : decode cX1_edgeBetween 3 = .ok (.invokevirtual 56, 3) := by decide +kernel
theorem dX1_edgeBetween_6 : decode cX1_edgeBetween 6 = .ok (.ifCond .eq 14, 3) := by decide +kernel
theorem dX1_edgeBetween_9 : decode cX1_edgeBetween 9 = .ok (.aload_n 0, 1) := by decide +kernel
theorem dX1_edgeBetween_10 : decode cX1_edgeBetween 10 = .ok (.getfield 17, 3) := by decide +kernel
theorem dX1_edgeBetween_13 : decode cX1_edgeBetween 13 = .ok (.iload_n 1, 1) := by decide +kernel
theorem dX1_edgeBetween_14 : decode cX1_edgeBetween 14 = .ok (.aaload, 1) := by decide +kernel
theorem dX1_edgeBetween_15 : decode cX1_edgeBetween 15 = .ok (.iload_n 2, 1) := by decide +kernel
theorem dX1_edgeBetween_16 : decode cX1_edgeBetween 16 = .ok (.iaload, 1) := by decide +kernel
theorem dX1_edgeBetween_17 : decode cX1_edgeBetween 17 = .ok (.goto 4, 3) := by decide +kernel
theorem dX1_edgeBetween_20 : decode cX1_edgeBetween 20 = .ok (.iconst 0, 1) := by decide +kernel
theorem dX1_edgeBetween_21 : decode cX1_edgeBetween 21 = .ok (.ireturn, 1) := by decide +kernel
theorem dX1_putEdge_0 : decode cX1_putEdge 0 = .ok (.aload_n 0, 1) := by decide +kernel
theorem dX1_putEdge_1 : decode cX1_putEdge 1 = .ok (.iload_n 1, 1) := by decide +kernel
theorem dX1_putEdge_2 : decode cX1_putEdge 2 = .ok (.iload_n 2, 1) := by decide +kernel
theorem dX1_putEdge_3 : decode cX1_putEdge 3 = .ok (.invokevirtual 56, 3) := by decide +kernel
theorem dX1_putEdge_6 : decode cX1_putEdge 6 = .ok (.ifCond .eq 21, 3) := by decide +kernel
theorem dX1_putEdge_9 : decode cX1_putEdge 9 = .ok (.aload_n 0, 1) := by decide +kernel
theorem dX1_putEdge_10 : decode cX1_putEdge 10 = .ok (.getfield 17, 3) := by decide +kernel
theorem dX1_putEdge_13 : decode cX1_putEdge 13 = .ok (.iload_n 1, 1) := by decide +kernel
theorem dX1_putEdge_14 : decode cX1_putEdge 14 = .ok (.aaload, 1) := by decide +kernel
theorem dX1_putEdge_15 : decode cX1_putEdge 15 = .ok (.iload_n 2, 1) := by decide +kernel
theorem dX1_putEdge_16 : decode cX1_putEdge 16 = .ok (.iload_n 3, 1) := by decide +kernel
theorem dX1_putEdge_17 : decode cX1_putEdge 17 = .ok (.iastore, 1) := by decide +kernel
theorem dX1_putEdge_18 : decode cX1_putEdge 18 = .ok (.aload_n 0, 1) := by decide +kernel
theorem dX1_putEdge_19 : decode cX1_putEdge 19 = .ok (.getfield 17, 3) := by decide +kernel
theorem dX1_putEdge_22 : decode cX1_putEdge 22 = .ok (.iload_n 2, 1) := by decide +kernel
theorem dX1_putEdge_23 : decode cX1_putEdge 23 = .ok (.aaload, 1) := by decide +kernel
theorem dX1_putEdge_24 : decode cX1_putEdge 24 = .ok (.iload_n 1, 1) := by decide +kernel
theorem dX1_putEdge_25 : decode cX1_putEdge 25 = .ok (.iload_n 3, 1) := by decide +kernel
theorem dX1_putEdge_26 : decode cX1_putEdge 26 = .ok (.iastore, 1) := by decide +kernel
theorem dX1_putEdge_27 : decode cX1_putEdge 27 = .ok (.return_, 1) := by decide +kernel
theorem dX1_edgeCount_0 : decode cX1_edgeCount 0 = .ok (.iconst 0, 1) := by decide +kernel
theorem dX1_edgeCount_1 : decode cX1_edgeCount 1 = .ok (.istore_n 1, 1) := by decide +kernel
theorem dX1_edgeCount_2 : decode cX1_edgeCount 2 = .ok (.iconst 0, 1) := by decide +kernel
theorem dX1_edgeCount_3 : decode cX1_edgeCount 3 = .ok (.istore_n 2, 1) := by decide +kernel
theorem dX1_edgeCount_4 : decode cX1_edgeCount 4 = .ok (.iload_n 2, 1) := by decide +kernel
theorem dX1_edgeCount_5 : decode cX1_edgeCount 5 = .ok (.aload_n 0, 1) := by decide +kernel
theorem dX1_edgeCount_6 : decode cX1_edgeCount 6 = .ok (.getfield 33, 3) := by decide +kernel
theorem dX1_edgeCount_9 : decode cX1_edgeCount 9 = .ok (.if_icmp .ge 39, 3) := by decide +kernel
theorem dX1_edgeCount_12 : decode cX1_edgeCount 12 = .ok (.iload_n 2, 1) := by decide +kernel
theorem dX1_edgeCount_13 : decode cX1_edgeCount 13 = .ok (.iconst 1, 1) := by decide +kernel
theorem dX1_edgeCount_14 : decode cX1_edgeCount 14 = .ok (.iadd, 1) := by decide +kernel
theorem dX1_edgeCount_15 : decode cX1_edgeCount 15 = .ok (.istore_n 3, 1) := by decide +kernel
theorem dX1_edgeCount_16 : decode cX1_edgeCount 16 = .ok (.iload_n 3, 1) := by decide +kernel
theorem dX1_edgeCount_17 : decode cX1_edgeCount 17 = .ok (.aload_n 0, 1) := by decide +kernel
theorem dX1_edgeCount_18 : decode cX1_edgeCount 18 = .ok (.getfield 33, 3) := by decide +kernel
theorem dX1_edgeCount_21 : decode cX1_edgeCount 21 = .ok (.if_icmp .ge 21, 3) := by decide +kernel
theorem dX1_edgeCount_24 : decode cX1_edgeCount 24 = .ok (.aload_n 0, 1) := by decide +kernel
theorem dX1_edgeCount_25 : decode cX1_edgeCount 25 = .ok (.iload_n 2, 1) := by decide +kernel
theorem dX1_edgeCount_26 : decode cX1_edgeCount 26 = .ok (.iload_n 3, 1) := by decide +kernel
theorem dX1_edgeCount_27 : decode cX1_edgeCount 27 = .ok (.invokevirtual 60, 3) := by decide +kernel
theorem dX1_edgeCount_30 : decode cX1_edgeCount 30 = .ok (.ifCond .eq 6, 3) := by decide +kernel
theorem dX1_edgeCount_33 : decode cX1_edgeCount 33 = .ok (.iinc 1 1, 3) := by decide +kernel
theorem dX1_edgeCount_36 : decode cX1_edgeCount 36 = .ok (.iinc 3 1, 3) := by decide +kernel
theorem dX1_edgeCount_39 : decode cX1_edgeCount 39 = .ok (.goto (-23), 3) := by decide +kernel
theorem dX1_edgeCount_42 : decode cX1_edgeCount 42 = .ok (.iinc 2 1, 3) := by decide +kernel
theorem dX1_edgeCount_45 : decode cX1_edgeCount 45 = .ok (.goto (-41), 3) := by decide +kernel
theorem dX1_edgeCount_48 : decode cX1_edgeCount 48 = .ok (.iload_n 1, 1) := by decide +kernel
theorem dX1_edgeCount_49 : decode cX1_edgeCount 49 = .ok (.ireturn, 1) := by decide +kernel
theorem dX2_init_0 : decode cX2_init 0 = .ok (.aload_n 0, 1) := by decide +kernel
theorem dX2_init_1 : decode cX2_init 1 = .ok (.invokespecial 1, 3) := by decide +kernel
theorem dX2_init_4 : decode cX2_init 4 = .ok (.aload_n 0, 1) := by decide +kernel
theorem dX2_init_5 : decode cX2_init 5 = .ok (.bipush 14, 2) := by decide +kernel
theorem dX2_init_7 : decode cX2_init 7 = .ok (.anewarray 9, 3) := by decide +kernel
theorem dX2_init_10 : decode cX2_init 10 = .ok (.putfield 11, 3) := by decide +kernel
theorem dX2_init_13 : decode cX2_init 13 = .ok (.iconst 0, 1) := by decide +kernel
theorem dX2_init_14 : decode cX2_init 14 = .ok (.istore_n 1, 1) := by decide +kernel
theorem dX2_init_15 : decode cX2_init 15 = .ok (.iload_n 1, 1) := by decide +kernel
theorem dX2_init_16 : decode cX2_init 16 = .ok (.bipush 14, 2) := by decide +kernel
theorem dX2_init_18 : decode cX2_init 18 = .ok (.if_icmp .ge 22, 3) := by decide +kernel
theorem dX2_init_21 : decode cX2_init 21 = .ok (.aload_n 0, 1) := by decide +kernel
theorem dX2_init_22 : decode cX2_init 22 = .ok (.getfield 11, 3) := by decide +kernel
theorem dX2_init_25 : decode cX2_init 25 = .ok (.iload_n 1, 1) := by decide +kernel
theorem dX2_init_26 : decode cX2_init 26 = .ok (.new 9, 3) := by decide +kernel
theorem dX2_init_29 : decode cX2_init 29 = .ok (.dup, 1) := by decide +kernel
theorem dX2_init_30 : decode cX2_init 30 = .ok (.invokespecial 15, 3) := by decide +kernel
theorem dX2_init_33 : decode cX2_init 33 = .ok (.aastore, 1) := by decide +kernel
theorem dX2_init_34 : decode cX2_init 34 = .ok (.iinc 1 1, 3) := by decide +kernel
theorem dX2_init_37 : decode cX2_init 37 = .ok (.goto (-22), 3) := by decide +kernel
theorem dX2_init_40 : decode cX2_init 40 = .ok (.return_, 1) := by decide +kernel
theorem dX2_size_0 : decode cX2_size 0 = .ok (.aload_n 0, 1) := by decide +kernel
theorem dX2_size_1 : decode cX2_size 1 = .ok (.getfield 16, 3) := by decide +kernel
theorem dX2_size_4 : decode cX2_size 4 = .ok (.ireturn, 1) := by decide +kernel
theorem dX2_remember_0 : decode cX2_remember 0 = .ok (.aload_n 0, 1) := by decide +kernel
theorem dX2_remember_1 : decode cX2_remember 1 = .ok (.getfield 11, 3) := by decide +kernel
theorem dX2_remember_4 : decode cX2_remember 4 = .ok (.aload_n 0, 1) := by decide +kernel
theorem dX2_remember_5 : decode cX2_remember 5 = .ok (.getfield 20, 3) := by decide +kernel
theorem dX2_remember_8 : decode cX2_remember 8 = .ok (.aaload, 1) := by decide +kernel
theorem dX2_remember_9 : decode cX2_remember 9 = .ok (.aload_n 1, 1) := by decide +kernel
theorem dX2_remember_10 : decode cX2_remember 10 = .ok (.invokevirtual 23, 3) := by decide +kernel
theorem dX2_remember_13 : decode cX2_remember 13 = .ok (.aload_n 0, 1) := by decide +kernel
theorem dX2_remember_14 : decode cX2_remember 14 = .ok (.aload_n 0, 1) := by decide +kernel
theorem dX2_remember_15 : decode cX2_remember 15 = .ok (.getfield 20, 3) := by decide +kernel
theorem dX2_remember_18 : decode cX2_remember 18 = .ok (.iconst 1, 1) := by decide +kernel
theorem dX2_remember_19 : decode cX2_remember 19 = .ok (.iadd, 1) := by decide +kernel
theorem dX2_remember_20 : decode cX2_remember 20 = .ok (.bipush 14, 2) := by decide +kernel
theorem dX2_remember_22 : decode cX2_remember 22 = .ok (.irem, 1) := by decide +kernel
theorem dX2_remember_23 : decode cX2_remember 23 = .ok (.putfield 20, 3) := by decide +kernel
theorem dX2_remember_26 : decode cX2_remember 26 = .ok (.aload_n 0, 1) := by decide +kernel
theorem dX2_remember_27 : decode cX2_remember 27 = .ok (.aload_n 0, 1) := by decide +kernel
theorem dX2_remember_28 : decode cX2_remember 28 = .ok (.getfield 16, 3) := by decide +kernel
theorem dX2_remember_31 : decode cX2_remember 31 = .ok (.iconst 1, 1) := by decide +kernel
theorem dX2_remember_32 : decode cX2_remember 32 = .ok (.iadd, 1) := by decide +kernel
theorem dX2_remember_33 : decode cX2_remember 33 = .ok (.bipush 14, 2) := by decide +kernel
theorem dX2_remember_35 : decode cX2_remember 35 = .ok (.invokestatic 27, 3) := by decide +kernel
theorem dX2_remember_38 : decode cX2_remember 38 = .ok (.putfield 16, 3) := by decide +kernel
theorem dX2_remember_41 : decode cX2_remember 41 = .ok (.return_, 1) := by decide +kernel
theorem dX2_takeBack_0 : decode cX2_takeBack 0 = .ok (.aload_n 0, 1) := by decide +kernel
theorem dX2_takeBack_1 : decode cX2_takeBack 1 = .ok (.getfield 16, 3) := by decide +kernel
theorem dX2_takeBack_4 : decode cX2_takeBack 4 = .ok (.ifCond .ne 5, 3) := by decide +kernel
theorem dX2_takeBack_7 : decode cX2_takeBack 7 = .ok (.iconst 0, 1) := by decide +kernel
theorem dX2_takeBack_8 : decode cX2_takeBack 8 = .ok (.ireturn, 1) := by decide +kernel
theorem dX2_takeBack_9 : decode cX2_takeBack 9 = .ok (.aload_n 0, 1) := by decide +kernel
theorem dX2_takeBack_10 : decode cX2_takeBack 10 = .ok (.aload_n 0, 1) := by decide +kernel
theorem dX2_takeBack_11 : decode cX2_takeBack 11 = .ok (.getfield 20, 3) := by decide +kernel
theorem dX2_takeBack_14 : decode cX2_takeBack 14 = .ok (.bipush 14, 2) := by decide +kernel
theorem dX2_takeBack_16 : decode cX2_takeBack 16 = .ok (.iadd, 1) := by decide +kernel
theorem dX2_takeBack_17 : decode cX2_takeBack 17 = .ok (.iconst 1, 1) := by decide +kernel
theorem dX2_takeBack_18 : decode cX2_takeBack 18 = .ok (.isub, 1) := by decide +kernel
theorem dX2_takeBack_19 : decode cX2_takeBack 19 = .ok (.bipush 14, 2) := by decide +kernel
theorem dX2_takeBack_21 : decode cX2_takeBack 21 = .ok (.irem, 1) := by decide +kernel
theorem dX2_takeBack_22 : decode cX2_takeBack 22 = .ok (.putfield 20, 3) := by decide +kernel
theorem dX2_takeBack_25 : decode cX2_takeBack 25 = .ok (.aload_n 0, 1) := by decide +kernel
theorem dX2_takeBack_26 : decode cX2_takeBack 26 = .ok (.dup, 1) := by decide +kernel
theorem dX2_takeBack_27 : decode cX2_takeBack 27 = .ok (.getfield 16, 3) := by decide +kernel
theorem dX2_takeBack_30 : decode cX2_takeBack 30 = .ok (.iconst 1, 1) := by decide +kernel
theorem dX2_takeBack_31 : decode cX2_takeBack 31 = .ok (.isub, 1) := by decide +kernel
theorem dX2_takeBack_32 : decode cX2_takeBack 32 = .ok (.putfield 16, 3) := by decide +kernel
theorem dX2_takeBack_35 : decode cX2_takeBack 35 = .ok (.aload_n 1, 1) := by decide +kernel
theorem dX2_takeBack_36 : decode cX2_takeBack 36 = .ok (.aload_n 0, 1) := by decide +kernel
theorem dX2_takeBack_37 : decode cX2_takeBack 37 = .ok (.getfield 11, 3) := by decide +kernel
theorem dX2_takeBack_40 : decode cX2_takeBack 40 = .ok (.aload_n 0, 1) := by decide +kernel
theorem dX2_takeBack_41 : decode cX2_takeBack 41 = .ok (.getfield 20, 3) := by decide +kernel
theorem dX2_takeBack_44 : decode cX2_takeBack 44 = .ok (.aaload, 1) := by decide +kernel
theorem dX2_takeBack_45 : decode cX2_takeBack 45 = .ok (.invokevirtual 23, 3) := by decide +kernel
theorem dX2_takeBack_48 : decode cX2_takeBack 48 = .ok (.iconst 1, 1) := by decide +kernel
theorem dX2_takeBack_49 : decode cX2_takeBack 49 = .ok (.ireturn, 1) := by decide +kernel
theorem dX2_forget_0 : decode cX2_forget 0 = .ok (.aload_n 0, 1) := by decide +kernel
theorem dX2_forget_1 : decode cX2_forget 1 = .ok (.iconst 0, 1) := by decide +kernel
theorem dX2_forget_2 : decode cX2_forget 2 = .ok (.putfield 16, 3) := by decide +kernel
theorem dX2_forget_5 : decode cX2_forget 5 = .ok (.return_, 1) := by decide +kernel
theorem dX3_init_0 : decode cX3_init 0 = .ok (.aload_n 0, 1) := by decide +kernel
theorem dX3_init_1 : decode cX3_init 1 = .ok (.invokespecial 3, 3) := by decide +kernel
theorem dX3_init_4 : decode cX3_init 4 = .ok (.aload_n 0, 1) := by decide +kernel
theorem dX3_init_5 : decode cX3_init 5 = .ok (.bipush 6, 2) := by decide +kernel
theorem dX3_init_7 : decode cX3_init 7 = .ok (.newarray .int, 2) := by decide +kernel
theorem dX3_init_9 : decode cX3_init 9 = .ok (.putfield 11, 3) := by decide +kernel
theorem dX3_init_12 : decode cX3_init 12 = .ok (.aload_n 0, 1) := by decide +kernel
theorem dX3_init_13 : decode cX3_init 13 = .ok (.bipush 6, 2) := by decide +kernel
theorem dX3_init_15 : decode cX3_init 15 = .ok (.newarray .int, 2) := by decide +kernel
theorem dX3_init_17 : decode cX3_init 17 = .ok (.putfield 15, 3) := by decide +kernel
theorem dX3_init_20 : decode cX3_init 20 = .ok (.aload_n 0, 1) := by decide +kernel
theorem dX3_init_21 : decode cX3_init 21 = .ok (.bipush 6, 2) := by decide +kernel
theorem dX3_init_23 : decode cX3_init 23 = .ok (.newarray .int, 2) := by decide +kernel
theorem dX3_init_25 : decode cX3_init 25 = .ok (.putfield 18, 3) := by decide +kernel
theorem dX3_init_28 : decode cX3_init 28 = .ok (.return_, 1) := by decide +kernel
theorem dX3_store_0 : decode cX3_store 0 = .ok (.aload_n 0, 1) := by decide +kernel
theorem dX3_store_1 : decode cX3_store 1 = .ok (.getfield 11, 3) := by decide +kernel
theorem dX3_store_4 : decode cX3_store 4 = .ok (.aload_n 0, 1) := by decide +kernel
theorem dX3_store_5 : decode cX3_store 5 = .ok (.getfield 21, 3) := by decide +kernel
theorem dX3_store_8 : decode cX3_store 8 = .ok (.iload_n 1, 1) := by decide +kernel
theorem dX3_store_9 : decode cX3_store 9 = .ok (.iastore, 1) := by decide +kernel
theorem dX3_store_10 : decode cX3_store 10 = .ok (.aload_n 0, 1) := by decide +kernel
theorem dX3_store_11 : decode cX3_store 11 = .ok (.getfield 15, 3) := by decide +kernel
theorem dX3_store_14 : decode cX3_store 14 = .ok (.aload_n 0, 1) := by decide +kernel
theorem dX3_store_15 : decode cX3_store 15 = .ok (.getfield 21, 3) := by decide +kernel
theorem dX3_store_18 : decode cX3_store 18 = .ok (.iload_n 2, 1) := by decide +kernel
theorem dX3_store_19 : decode cX3_store 19 = .ok (.iastore, 1) := by decide +kernel
theorem dX3_store_20 : decode cX3_store 20 = .ok (.aload_n 0, 1) := by decide +kernel
theorem dX3_store_21 : decode cX3_store 21 = .ok (.getfield 18, 3) := by decide +kernel
theorem dX3_store_24 : decode cX3_store 24 = .ok (.aload_n 0, 1) := by decide +kernel
theorem dX3_store_25 : decode cX3_store 25 = .ok (.getfield 21, 3) := by decide +kernel
theorem dX3_store_28 : decode cX3_store 28 = .ok (.iload_n 3, 1) := by decide +kernel
theorem dX3_store_29 : decode cX3_store 29 = .ok (.iastore, 1) := by decide +kernel
theorem dX3_store_30 : decode cX3_store 30 = .ok (.aload_n 0, 1) := by decide +kernel
theorem dX3_store_31 : decode cX3_store 31 = .ok (.aload_n 0, 1) := by decide +kernel
theorem dX3_store_32 : decode cX3_store 32 = .ok (.getfield 21, 3) := by decide +kernel
theorem dX3_store_35 : decode cX3_store 35 = .ok (.iconst 1, 1) := by decide +kernel
theorem dX3_store_36 : decode cX3_store 36 = .ok (.iadd, 1) := by decide +kernel
theorem dX3_store_37 : decode cX3_store 37 = .ok (.bipush 6, 2) := by decide +kernel
theorem dX3_store_39 : decode cX3_store 39 = .ok (.irem, 1) := by decide +kernel
theorem dX3_store_40 : decode cX3_store 40 = .ok (.putfield 21, 3) := by decide +kernel
theorem dX3_store_43 : decode cX3_store 43 = .ok (.aload_n 0, 1) := by decide +kernel
theorem dX3_store_44 : decode cX3_store 44 = .ok (.aload_n 0, 1) := by decide +kernel
theorem dX3_store_45 : decode cX3_store 45 = .ok (.getfield 25, 3) := by decide +kernel
theorem dX3_store_48 : decode cX3_store 48 = .ok (.iconst 1, 1) := by decide +kernel
theorem dX3_store_49 : decode cX3_store 49 = .ok (.iadd, 1) := by decide +kernel
theorem dX3_store_50 : decode cX3_store 50 = .ok (.bipush 6, 2) := by decide +kernel
theorem dX3_store_52 : decode cX3_store 52 = .ok (.invokestatic 28, 3) := by decide +kernel
theorem dX3_store_55 : decode cX3_store 55 = .ok (.putfield 25, 3) := by decide +kernel
theorem dX3_store_58 : decode cX3_store 58 = .ok (.aload_n 0, 1) := by decide +kernel
theorem dX3_store_59 : decode cX3_store 59 = .ok (.getfield 25, 3) := by decide +kernel
theorem dX3_store_62 : decode cX3_store 62 = .ok (.ireturn, 1) := by decide +kernel
theorem dX3_countWeights_0 : decode cX3_countWeights 0 = .ok (.iconst 1, 1) := by decide +kernel
theorem dX3_countWeights_1 : decode cX3_countWeights 1 = .ok (.istore 4, 2) := by decide +kernel
theorem dX3_countWeights_3 : decode cX3_countWeights 3 = .ok (.bipush 99, 2) := by decide +kernel
theorem dX3_countWeights_5 : decode cX3_countWeights 5 = .ok (.istore 5, 2) := by decide +kernel
theorem dX3_countWeights_7 : decode cX3_countWeights 7 = .ok (.iconst 0, 1) := by decide +kernel
theorem dX3_countWeights_8 : decode cX3_countWeights 8 = .ok (.istore 6, 2) := by decide +kernel
theorem dX3_countWeights_10 : decode cX3_countWeights 10 = .ok (.iload 6, 2) := by decide +kernel
theorem dX3_countWeights_12 : decode cX3_countWeights 12 = .ok (.aload_n 0, 1) := by decide +kernel
theorem dX3_countWeights_13 : decode cX3_countWeights 13 = .ok (.getfield 25, 3) := by decide +kernel
theorem dX3_countWeights_16 : decode cX3_countWeights 16 = .ok (.if_icmp .ge 122, 3) := by decide +kernel
theorem dX3_countWeights_19 : decode cX3_countWeights 19 = .ok (.aload_n 0, 1) := by decide +kernel
theorem dX3_countWeights_20 : decode cX3_countWeights 20 = .ok (.getfield 18, 3) := by decide +kernel
theorem dX3_countWeights_23 : decode cX3_countWeights 23 = .ok (.iload 6, 2) := by decide +kernel
theorem dX3_countWeights_25 : decode cX3_countWeights 25 = .ok (.iaload, 1) := by decide +kernel
theorem dX3_countWeights_26 : decode cX3_countWeights 26 = .ok (.aload_n 1, 1) := by decide +kernel
theorem dX3_countWeights_27 : decode cX3_countWeights 27 = .ok (.aload_n 0, 1) := by decide +kernel
theorem dX3_countWeights_28 : decode cX3_countWeights 28 = .ok (.getfield 11, 3) := by decide +kernel
theorem dX3_countWeights_31 : decode cX3_countWeights 31 = .ok (.iload 6, 2) := by decide +kernel
theorem dX3_countWeights_33 : decode cX3_countWeights 33 = .ok (.iaload, 1) := by decide +kernel
theorem dX3_countWeights_34 : decode cX3_countWeights 34 = .ok (.aload_n 0, 1) := by decide +kernel
theorem dX3_countWeights_35 : decode cX3_countWeights 35 = .ok (.getfield 15, 3) := by decide +kernel
theorem dX3_countWeights_38 : decode cX3_countWeights 38 = .ok (.iload 6, 2) := by decide +kernel
theorem dX3_countWeights_40 : decode cX3_countWeights 40 = .ok (.iaload, 1) := by decide +kernel
theorem dX3_countWeights_41 : decode cX3_countWeights 41 = .ok (.invokevirtual 34, 3) := by decide +kernel
theorem dX3_countWeights_44 : decode cX3_countWeights 44 = .ok (.isub, 1) := by decide +kernel
theorem dX3_countWeights_45 : decode cX3_countWeights 45 = .ok (.istore 7, 2) := by decide +kernel
theorem dX3_countWeights_47 : decode cX3_countWeights 47 = .ok (.aload_n 1, 1) := by decide +kernel
theorem dX3_countWeights_48 : decode cX3_countWeights 48 = .ok (.aload_n 0, 1) := by decide +kernel
theorem dX3_countWeights_49 : decode cX3_countWeights 49 = .ok (.getfield 11, 3) := by decide +kernel
theorem dX3_countWeights_52 : decode cX3_countWeights 52 = .ok (.iload 6, 2) := by decide +kernel
theorem dX3_countWeights_54 : decode cX3_countWeights 54 = .ok (.iaload, 1) := by decide +kernel
theorem dX3_countWeights_55 : decode cX3_countWeights 55 = .ok (.aload_n 0, 1) := by decide +kernel
theorem dX3_countWeights_56 : decode cX3_countWeights 56 = .ok (.getfield 15, 3) := by decide +kernel
theorem dX3_countWeights_59 : decode cX3_countWeights 59 = .ok (.iload 6, 2) := by decide +kernel
theorem dX3_countWeights_61 : decode cX3_countWeights 61 = .ok (.iaload, 1) := by decide +kernel
theorem dX3_countWeights_62 : decode cX3_countWeights 62 = .ok (.invokevirtual 39, 3) := by decide +kernel
theorem dX3_countWeights_65 : decode cX3_countWeights 65 = .ok (.ifCond .ne 5, 3) := by decide +kernel
theorem dX3_countWeights_68 : decode cX3_countWeights 68 = .ok (.iconst 0, 1) := by decide +kernel
theorem dX3_countWeights_69 : decode cX3_countWeights 69 = .ok (.ireturn, 1) := by decide +kernel
theorem dX3_countWeights_70 : decode cX3_countWeights 70 = .ok (.aload_n 1, 1) := by decide +kernel
theorem dX3_countWeights_71 : decode cX3_countWeights 71 = .ok (.aload_n 0, 1) := by decide +kernel
theorem dX3_countWeights_72 : decode cX3_countWeights 72 = .ok (.getfield 11, 3) := by decide +kernel
theorem dX3_countWeights_75 : decode cX3_countWeights 75 = .ok (.iload 6, 2) := by decide +kernel
theorem dX3_countWeights_77 : decode cX3_countWeights 77 = .ok (.iaload, 1) := by decide +kernel
theorem dX3_countWeights_78 : decode cX3_countWeights 78 = .ok (.aload_n 0, 1) := by decide +kernel
theorem dX3_countWeights_79 : decode cX3_countWeights 79 = .ok (.getfield 15, 3) := by decide +kernel
theorem dX3_countWeights_82 : decode cX3_countWeights 82 = .ok (.iload 6, 2) := by decide +kernel
theorem dX3_countWeights_84 : decode cX3_countWeights 84 = .ok (.iaload, 1) := by decide +kernel
theorem dX3_countWeights_85 : decode cX3_countWeights 85 = .ok (.iload_n 2, 1) := by decide +kernel
theorem dX3_countWeights_86 : decode cX3_countWeights 86 = .ok (.iload_n 3, 1) := by decide +kernel
theorem dX3_countWeights_87 : decode cX3_countWeights 87 = .ok (.invokevirtual 43, 3) := by decide +kernel
theorem dX3_countWeights_90 : decode cX3_countWeights 90 = .ok (.ifCond .eq 35, 3) := by decide +kernel
theorem dX3_countWeights_93 : decode cX3_countWeights 93 = .ok (.aload_n 1, 1) := by decide +kernel
theorem dX3_countWeights_94 : decode cX3_countWeights 94 = .ok (.iload_n 2, 1) := by decide +kernel
theorem dX3_countWeights_95 : decode cX3_countWeights 95 = .ok (.iload_n 3, 1) := by decide +kernel
theorem dX3_countWeights_96 : decode cX3_countWeights 96 = .ok (.invokevirtual 47, 3) := by decide +kernel
theorem dX3_countWeights_99 : decode cX3_countWeights 99 = .ok (.iload 7, 2) := by decide +kernel
theorem dX3_countWeights_101 : decode cX3_countWeights 101 = .ok (.iadd, 1) := by decide +kernel
theorem dX3_countWeights_102 : decode cX3_countWeights 102 = .ok (.istore 8, 2) := by decide +kernel
theorem dX3_countWeights_104 : decode cX3_countWeights 104 = .ok (.iload 4, 2) := by decide +kernel
theorem dX3_countWeights_106 : decode cX3_countWeights 106 = .ok (.iload 8, 2) := by decide +kernel
theorem dX3_countWeights_108 : decode cX3_countWeights 108 = .ok (.invokestatic 50, 3) := by decide +kernel
theorem dX3_countWeights_111 : decode cX3_countWeights 111 = .ok (.istore 4, 2) := by decide +kernel
theorem dX3_countWeights_113 : decode cX3_countWeights 113 = .ok (.iload 5, 2) := by decide +kernel
theorem dX3_countWeights_115 : decode cX3_countWeights 115 = .ok (.iload 8, 2) := by decide +kernel
theorem dX3_countWeights_117 : decode cX3_countWeights 117 = .ok (.invokestatic 28, 3) := by decide +kernel
theorem dX3_countWeights_120 : decode cX3_countWeights 120 = .ok (.istore 5, 2) := by decide +kernel
theorem dX3_countWeights_122 : decode cX3_countWeights 122 = .ok (.goto 10, 3) := by decide +kernel
theorem dX3_countWeights_125 : decode cX3_countWeights 125 = .ok (.iload 7, 2) := by decide +kernel
theorem dX3_countWeights_127 : decode cX3_countWeights 127 = .ok (.ifCond .eq 5, 3) := by decide +kernel
theorem dX3_countWeights_130 : decode cX3_countWeights 130 = .ok (.iconst 0, 1) := by decide +kernel
theorem dX3_countWeights_131 : decode cX3_countWeights 131 = .ok (.ireturn, 1) := by decide +kernel
theorem dX3_countWeights_132 : decode cX3_countWeights 132 = .ok (.iinc 6 1, 3) := by decide +kernel
theorem dX3_countWeights_135 : decode cX3_countWeights 135 = .ok (.goto (-125), 3) := by decide +kernel
theorem dX3_countWeights_138 : decode cX3_countWeights 138 = .ok (.iconst 0, 1) := by decide +kernel
theorem dX3_countWeights_139 : decode cX3_countWeights 139 = .ok (.iload 5, 2) := by decide +kernel
theorem dX3_countWeights_141 : decode cX3_countWeights 141 = .ok (.iload 4, 2) := by decide +kernel
theorem dX3_countWeights_143 : decode cX3_countWeights 143 = .ok (.isub, 1) := by decide +kernel
theorem dX3_countWeights_144 : decode cX3_countWeights 144 = .ok (.iconst 1, 1) := by decide +kernel
theorem dX3_countWeights_145 : decode cX3_countWeights 145 = .ok (.iadd, 1) := by decide +kernel
theorem dX3_countWeights_146 : decode cX3_countWeights 146 = .ok (.invokestatic 50, 3) := by decide +kernel
theorem dX3_countWeights_149 : decode cX3_countWeights 149 = .ok (.ireturn, 1) := by decide +kernel
theorem dX4_init_0 : decode cX4_init 0 = .ok (.aload_n 0, 1) := by decide +kernel
theorem dX4_init_1 : decode cX4_init 1 = .ok (.invokespecial 3, 3) := by decide +kernel
theorem dX4_init_4 : decode cX4_init 4 = .ok (.aload_n 0, 1) := by decide +kernel
theorem dX4_init_5 : decode cX4_init 5 = .ok (.bipush 80, 2) := by decide +kernel
theorem dX4_init_7 : decode cX4_init 7 = .ok (.newarray .int, 2) := by decide +kernel
theorem dX4_init_9 : decode cX4_init 9 = .ok (.putfield 11, 3) := by decide +kernel
theorem dX4_init_12 : decode cX4_init 12 = .ok (.aload_n 0, 1) := by decide +kernel
theorem dX4_init_13 : decode cX4_init 13 = .ok (.bipush 12, 2) := by decide +kernel
theorem dX4_init_15 : decode cX4_init 15 = .ok (.newarray .int, 2) := by decide +kernel
theorem dX4_init_17 : decode cX4_init 17 = .ok (.putfield 15, 3) := by decide +kernel
theorem dX4_init_20 : decode cX4_init 20 = .ok (.return_, 1) := by decide +kernel
theorem dX4_size_0 : decode cX4_size 0 = .ok (.aload_n 0, 1) := by decide +kernel
theorem dX4_size_1 : decode cX4_size 1 = .ok (.getfield 18, 3) := by decide +kernel
theorem dX4_size_4 : decode cX4_size 4 = .ok (.ireturn, 1) := by decide +kernel
theorem dX4_put_0 : decode cX4_put 0 = .ok (.aload_n 0, 1) := by decide +kernel
theorem dX4_put_1 : decode cX4_put 1 = .ok (.getfield 18, 3) := by decide +kernel
theorem dX4_put_4 : decode cX4_put 4 = .ok (.bipush 80, 2) := by decide +kernel
theorem dX4_put_6 : decode cX4_put 6 = .ok (.if_icmp .lt 5, 3) := by decide +kernel
theorem dX4_put_9 : decode cX4_put 9 = .ok (.iconst 0, 1) := by decide +kernel
theorem dX4_put_10 : decode cX4_put 10 = .ok (.ireturn, 1) := by decide +kernel
theorem dX4_put_11 : decode cX4_put 11 = .ok (.aload_n 0, 1) := by decide +kernel
theorem dX4_put_12 : decode cX4_put 12 = .ok (.getfield 11, 3) := by decide +kernel
theorem dX4_put_15 : decode cX4_put 15 = .ok (.aload_n 0, 1) := by decide +kernel
theorem dX4_put_16 : decode cX4_put 16 = .ok (.getfield 18, 3) := by decide +kernel
theorem dX4_put_19 : decode cX4_put 19 = .ok (.iload_n 1, 1) := by decide +kernel
theorem dX4_put_20 : decode cX4_put 20 = .ok (.iastore, 1) := by decide +kernel
theorem dX4_put_21 : decode cX4_put 21 = .ok (.aload_n 0, 1) := by decide +kernel
theorem dX4_put_22 : decode cX4_put 22 = .ok (.dup, 1) := by decide +kernel
theorem dX4_put_23 : decode cX4_put 23 = .ok (.getfield 18, 3) := by decide +kernel
theorem dX4_put_26 : decode cX4_put 26 = .ok (.iconst 1, 1) := by decide +kernel
theorem dX4_put_27 : decode cX4_put 27 = .ok (.iadd, 1) := by decide +kernel
theorem dX4_put_28 : decode cX4_put 28 = .ok (.putfield 18, 3) := by decide +kernel
theorem dX4_put_31 : decode cX4_put 31 = .ok (.iconst 1, 1) := by decide +kernel
theorem dX4_put_32 : decode cX4_put 32 = .ok (.ireturn, 1) := by decide +kernel
theorem dX4_empty_0 : decode cX4_empty 0 = .ok (.aload_n 0, 1) := by decide +kernel
theorem dX4_empty_1 : decode cX4_empty 1 = .ok (.iconst 0, 1) := by decide +kernel
theorem dX4_empty_2 : decode cX4_empty 2 = .ok (.putfield 18, 3) := by decide +kernel
theorem dX4_empty_5 : decode cX4_empty 5 = .ok (.return_, 1) := by decide +kernel
theorem dX4_readInto_0 : decode cX4_readInto 0 = .ok (.aload_n 0, 1) := by decide +kernel
theorem dX4_readInto_1 : decode cX4_readInto 1 = .ok (.iconst 0, 1) := by decide +kernel
theorem dX4_readInto_2 : decode cX4_readInto 2 = .ok (.putfield 22, 3) := by decide +kernel
theorem dX4_readInto_5 : decode cX4_readInto 5 = .ok (.aload_n 0, 1) := by decide +kernel
theorem dX4_readInto_6 : decode cX4_readInto 6 = .ok (.bipush 70, 2) := by decide +kernel
theorem dX4_readInto_8 : decode cX4_readInto 8 = .ok (.bipush 70, 2) := by decide +kernel
theorem dX4_readInto_10 : decode cX4_readInto 10 = .ok (.invokevirtual 25, 3) := by decide +kernel
theorem dX4_readInto_13 : decode cX4_readInto 13 = .ok (.iconst (-1), 1) := by decide +kernel
theorem dX4_readInto_14 : decode cX4_readInto 14 = .ok (.if_icmp .ne 8, 3) := by decide +kernel
theorem dX4_readInto_17 : decode cX4_readInto 17 = .ok (.aload_n 0, 1) := by decide +kernel
theorem dX4_readInto_18 : decode cX4_readInto 18 = .ok (.getfield 22, 3) := by decide +kernel
theorem dX4_readInto_21 : decode cX4_readInto 21 = .ok (.ireturn, 1) := by decide +kernel
theorem dX4_readInto_22 : decode cX4_readInto 22 = .ok (.aload_n 0, 1) := by decide +kernel
theorem dX4_readInto_23 : decode cX4_readInto 23 = .ok (.iconst 1, 1) := by decide +kernel
theorem dX4_readInto_24 : decode cX4_readInto 24 = .ok (.bipush 12, 2) := by decide +kernel
theorem dX4_readInto_26 : decode cX4_readInto 26 = .ok (.invokevirtual 29, 3) := by decide +kernel
theorem dX4_readInto_29 : decode cX4_readInto 29 = .ok (.istore_n 2, 1) := by decide +kernel
theorem dX4_readInto_30 : decode cX4_readInto 30 = .ok (.iload_n 2, 1) := by decide +kernel
theorem dX4_readInto_31 : decode cX4_readInto 31 = .ok (.iconst (-1), 1) := by decide +kernel
theorem dX4_readInto_32 : decode cX4_readInto 32 = .ok (.if_icmp .ne 8, 3) := by decide +kernel
theorem dX4_readInto_35 : decode cX4_readInto 35 = .ok (.aload_n 0, 1) := by decide +kernel
theorem dX4_readInto_36 : decode cX4_readInto 36 = .ok (.getfield 22, 3) := by decide +kernel
theorem dX4_readInto_39 : decode cX4_readInto 39 = .ok (.ireturn, 1) := by decide +kernel
theorem dX4_readInto_40 : decode cX4_readInto 40 = .ok (.aload_n 1, 1) := by decide +kernel
theorem dX4_readInto_41 : decode cX4_readInto 41 = .ok (.iload_n 2, 1) := by decide +kernel
theorem dX4_readInto_42 : decode cX4_readInto 42 = .ok (.invokevirtual 32, 3) := by decide +kernel
theorem dX4_readInto_45 : decode cX4_readInto 45 = .ok (.aload_n 0, 1) := by decide +kernel
theorem dX4_readInto_46 : decode cX4_readInto 46 = .ok (.aload_n 1, 1) := by decide +kernel
theorem dX4_readInto_47 : decode cX4_readInto 47 = .ok (.invokevirtual 38, 3) := by decide +kernel
theorem dX4_readInto_50 : decode cX4_readInto 50 = .ok (.ifCond .eq 16, 3) := by decide +kernel
theorem dX4_readInto_53 : decode cX4_readInto 53 = .ok (.aload_n 0, 1) := by decide +kernel
theorem dX4_readInto_54 : decode cX4_readInto 54 = .ok (.aload_n 1, 1) := by decide +kernel
theorem dX4_readInto_55 : decode cX4_readInto 55 = .ok (.invokevirtual 42, 3) := by decide +kernel
theorem dX4_readInto_58 : decode cX4_readInto 58 = .ok (.ifCond .eq 8, 3) := by decide +kernel
theorem dX4_readInto_61 : decode cX4_readInto 61 = .ok (.bipush (-9), 2) := by decide +kernel
theorem dX4_readInto_63 : decode cX4_readInto 63 = .ok (.goto 7, 3) := by decide +kernel
theorem dX4_readInto_66 : decode cX4_readInto 66 = .ok (.aload_n 0, 1) := by decide +kernel
theorem dX4_readInto_67 : decode cX4_readInto 67 = .ok (.getfield 22, 3) := by decide +kernel
theorem dX4_readInto_70 : decode cX4_readInto 70 = .ok (.ireturn, 1) := by decide +kernel
theorem dX4_takeWeights_0 : decode cX4_takeWeights 0 = .ok (.iconst 0, 1) := by decide +kernel
theorem dX4_takeWeights_1 : decode cX4_takeWeights 1 = .ok (.istore_n 2, 1) := by decide +kernel
theorem dX4_takeWeights_2 : decode cX4_takeWeights 2 = .ok (.iload_n 2, 1) := by decide +kernel
theorem dX4_takeWeights_3 : decode cX4_takeWeights 3 = .ok (.aload_n 1, 1) := by decide +kernel
theorem dX4_takeWeights_4 : decode cX4_takeWeights 4 = .ok (.invokevirtual 45, 3) := by decide +kernel
theorem dX4_takeWeights_7 : decode cX4_takeWeights 7 = .ok (.if_icmp .ge 30, 3) := by decide +kernel
theorem dX4_takeWeights_10 : decode cX4_takeWeights 10 = .ok (.aload_n 0, 1) := by decide +kernel
theorem dX4_takeWeights_11 : decode cX4_takeWeights 11 = .ok (.iconst 0, 1) := by decide +kernel
theorem dX4_takeWeights_12 : decode cX4_takeWeights 12 = .ok (.bipush 99, 2) := by decide +kernel
theorem dX4_takeWeights_14 : decode cX4_takeWeights 14 = .ok (.invokevirtual 29, 3) := by decide +kernel
theorem dX4_takeWeights_17 : decode cX4_takeWeights 17 = .ok (.istore_n 3, 1) := by decide +kernel
theorem dX4_takeWeights_18 : decode cX4_takeWeights 18 = .ok (.iload_n 3, 1) := by decide +kernel
theorem dX4_takeWeights_19 : decode cX4_takeWeights 19 = .ok (.iconst (-1), 1) := by decide +kernel
theorem dX4_takeWeights_20 : decode cX4_takeWeights 20 = .ok (.if_icmp .ne 5, 3) := by decide +kernel
theorem dX4_takeWeights_23 : decode cX4_takeWeights 23 = .ok (.iconst 0, 1) := by decide +kernel
theorem dX4_takeWeights_24 : decode cX4_takeWeights 24 = .ok (.ireturn, 1) := by decide +kernel
theorem dX4_takeWeights_25 : decode cX4_takeWeights 25 = .ok (.aload_n 1, 1) := by decide +kernel
theorem dX4_takeWeights_26 : decode cX4_takeWeights 26 = .ok (.iload_n 2, 1) := by decide +kernel
theorem dX4_takeWeights_27 : decode cX4_takeWeights 27 = .ok (.iload_n 3, 1) := by decide +kernel
theorem dX4_takeWeights_28 : decode cX4_takeWeights 28 = .ok (.invokevirtual 49, 3) := by decide +kernel
theorem dX4_takeWeights_31 : decode cX4_takeWeights 31 = .ok (.iinc 2 1, 3) := by decide +kernel
theorem dX4_takeWeights_34 : decode cX4_takeWeights 34 = .ok (.goto (-32), 3) := by decide +kernel
theorem dX4_takeWeights_37 : decode cX4_takeWeights 37 = .ok (.iconst 1, 1) := by decide +kernel
theorem dX4_takeWeights_38 : decode cX4_takeWeights 38 = .ok (.ireturn, 1) := by decide +kernel
theorem dX4_takeEdges_0 : decode cX4_takeEdges 0 = .ok (.iconst 0, 1) := by decide +kernel
theorem dX4_takeEdges_1 : decode cX4_takeEdges 1 = .ok (.istore_n 2, 1) := by decide +kernel
theorem dX4_takeEdges_2 : decode cX4_takeEdges 2 = .ok (.iload_n 2, 1) := by decide +kernel
theorem dX4_takeEdges_3 : decode cX4_takeEdges 3 = .ok (.bipush 12, 2) := by decide +kernel
theorem dX4_takeEdges_5 : decode cX4_takeEdges 5 = .ok (.if_icmp .ge 16, 3) := by decide +kernel
theorem dX4_takeEdges_8 : decode cX4_takeEdges 8 = .ok (.aload_n 0, 1) := by decide +kernel
theorem dX4_takeEdges_9 : decode cX4_takeEdges 9 = .ok (.getfield 15, 3) := by decide +kernel
theorem dX4_takeEdges_12 : decode cX4_takeEdges 12 = .ok (.iload_n 2, 1) := by decide +kernel
theorem dX4_takeEdges_13 : decode cX4_takeEdges 13 = .ok (.iload_n 2, 1) := by decide +kernel
theorem dX4_takeEdges_14 : decode cX4_takeEdges 14 = .ok (.iastore, 1) := by decide +kernel
theorem dX4_takeEdges_15 : decode cX4_takeEdges 15 = .ok (.iinc 2 1, 3) := by decide +kernel
theorem dX4_takeEdges_18 : decode cX4_takeEdges 18 = .ok (.goto (-16), 3) := by decide +kernel
theorem dX4_takeEdges_21 : decode cX4_takeEdges 21 = .ok (.iconst 0, 1) := by decide +kernel
theorem dX4_takeEdges_22 : decode cX4_takeEdges 22 = .ok (.istore_n 2, 1) := by decide +kernel
theorem dX4_takeEdges_23 : decode cX4_takeEdges 23 = .ok (.iload_n 2, 1) := by decide +kernel
theorem dX4_takeEdges_24 : decode cX4_takeEdges 24 = .ok (.bipush 12, 2) := by decide +kernel
theorem dX4_takeEdges_26 : decode cX4_takeEdges 26 = .ok (.if_icmp .ge 30, 3) := by decide +kernel
theorem dX4_takeEdges_29 : decode cX4_takeEdges 29 = .ok (.aload_n 0, 1) := by decide +kernel
theorem dX4_takeEdges_30 : decode cX4_takeEdges 30 = .ok (.getfield 22, 3) := by decide +kernel
theorem dX4_takeEdges_33 : decode cX4_takeEdges 33 = .ok (.aload_n 0, 1) := by decide +kernel
theorem dX4_takeEdges_34 : decode cX4_takeEdges 34 = .ok (.getfield 18, 3) := by decide +kernel
theorem dX4_takeEdges_37 : decode cX4_takeEdges 37 = .ok (.if_icmp .ge 19, 3) := by decide +kernel
theorem dX4_takeEdges_40 : decode cX4_takeEdges 40 = .ok (.aload_n 0, 1) := by decide +kernel
theorem dX4_takeEdges_41 : decode cX4_takeEdges 41 = .ok (.aload_n 1, 1) := by decide +kernel
theorem dX4_takeEdges_42 : decode cX4_takeEdges 42 = .ok (.invokevirtual 53, 3) := by decide +kernel
theorem dX4_takeEdges_45 : decode cX4_takeEdges 45 = .ok (.ifCond .ne 5, 3) := by decide +kernel
theorem dX4_takeEdges_48 : decode cX4_takeEdges 48 = .ok (.iconst 0, 1) := by decide +kernel
theorem dX4_takeEdges_49 : decode cX4_takeEdges 49 = .ok (.ireturn, 1) := by decide +kernel
theorem dX4_takeEdges_50 : decode cX4_takeEdges 50 = .ok (.iinc 2 1, 3) := by decide +kernel
theorem dX4_takeEdges_53 : decode cX4_takeEdges 53 = .ok (.goto (-30), 3) := by decide +kernel
theorem dX4_takeEdges_56 : decode cX4_takeEdges 56 = .ok (.iconst 1, 1) := by decide +kernel
theorem dX4_takeEdges_57 : decode cX4_takeEdges 57 = .ok (.ireturn, 1) := by decide +kernel
theorem dX4_takeEdge_0 : decode cX4_takeEdge 0 = .ok (.bipush 97, 2) := by decide +kernel
theorem dX4_takeEdge_2 : decode cX4_takeEdge 2 = .ok (.aload_n 1, 1) := by decide +kernel
theorem dX4_takeEdge_3 : decode cX4_takeEdge 3 = .ok (.invokevirtual 45, 3) := by decide +kernel
theorem dX4_takeEdge_6 : decode cX4_takeEdge 6 = .ok (.iadd, 1) := by decide +kernel
theorem dX4_takeEdge_7 : decode cX4_takeEdge 7 = .ok (.iconst 1, 1) := by decide +kernel
theorem dX4_takeEdge_8 : decode cX4_takeEdge 8 = .ok (.isub, 1) := by decide +kernel
theorem dX4_takeEdge_9 : decode cX4_takeEdge 9 = .ok (.istore_n 2, 1) := by decide +kernel
theorem dX4_takeEdge_10 : decode cX4_takeEdge 10 = .ok (.aload_n 0, 1) := by decide +kernel
theorem dX4_takeEdge_11 : decode cX4_takeEdge 11 = .ok (.bipush 97, 2) := by decide +kernel
theorem dX4_takeEdge_13 : decode cX4_takeEdge 13 = .ok (.iload_n 2, 1) := by decide +kernel
theorem dX4_takeEdge_14 : decode cX4_takeEdge 14 = .ok (.invokevirtual 25, 3) := by decide +kernel
theorem dX4_takeEdge_17 : decode cX4_takeEdge 17 = .ok (.istore_n 3, 1) := by decide +kernel
theorem dX4_takeEdge_18 : decode cX4_takeEdge 18 = .ok (.iload_n 3, 1) := by decide +kernel
theorem dX4_takeEdge_19 : decode cX4_takeEdge 19 = .ok (.iconst (-1), 1) := by decide +kernel
theorem dX4_takeEdge_20 : decode cX4_takeEdge 20 = .ok (.if_icmp .ne 7, 3) := by decide +kernel
theorem dX4_takeEdge_23 : decode cX4_takeEdge 23 = .ok (.iconst (-1), 1) := by decide +kernel
theorem dX4_takeEdge_24 : decode cX4_takeEdge 24 = .ok (.goto 10, 3) := by decide +kernel
theorem dX4_takeEdge_27 : decode cX4_takeEdge 27 = .ok (.aload_n 0, 1) := by decide +kernel
theorem dX4_takeEdge_28 : decode cX4_takeEdge 28 = .ok (.bipush 97, 2) := by decide +kernel
theorem dX4_takeEdge_30 : decode cX4_takeEdge 30 = .ok (.iload_n 2, 1) := by decide +kernel
theorem dX4_takeEdge_31 : decode cX4_takeEdge 31 = .ok (.invokevirtual 25, 3) := by decide +kernel
theorem dX4_takeEdge_34 : decode cX4_takeEdge 34 = .ok (.istore 4, 2) := by decide +kernel
theorem dX4_takeEdge_36 : decode cX4_takeEdge 36 = .ok (.iload_n 3, 1) := by decide +kernel
theorem dX4_takeEdge_37 : decode cX4_takeEdge 37 = .ok (.iconst (-1), 1) := by decide +kernel
theorem dX4_takeEdge_38 : decode cX4_takeEdge 38 = .ok (.if_icmp .eq 9, 3) := by decide +kernel
theorem dX4_takeEdge_41 : decode cX4_takeEdge 41 = .ok (.iload 4, 2) := by decide +kernel
theorem dX4_takeEdge_43 : decode cX4_takeEdge 43 = .ok (.iconst (-1), 1) := by decide +kernel
theorem dX4_takeEdge_44 : decode cX4_takeEdge 44 = .ok (.if_icmp .ne 5, 3) := by decide +kernel
theorem dX4_takeEdge_47 : decode cX4_takeEdge 47 = .ok (.iconst 0, 1) := by decide +kernel
theorem dX4_takeEdge_48 : decode cX4_takeEdge 48 = .ok (.ireturn, 1) := by decide +kernel
theorem dX4_takeEdge_49 : decode cX4_takeEdge 49 = .ok (.aload_n 0, 1) := by decide +kernel
theorem dX4_takeEdge_50 : decode cX4_takeEdge 50 = .ok (.getfield 15, 3) := by decide +kernel
theorem dX4_takeEdge_53 : decode cX4_takeEdge 53 = .ok (.iload_n 3, 1) := by decide +kernel
theorem dX4_takeEdge_54 : decode cX4_takeEdge 54 = .ok (.iaload, 1) := by decide +kernel
theorem dX4_takeEdge_55 : decode cX4_takeEdge 55 = .ok (.aload_n 0, 1) := by decide +kernel
theorem dX4_takeEdge_56 : decode cX4_takeEdge 56 = .ok (.getfield 15, 3) := by decide +kernel
theorem dX4_takeEdge_59 : decode cX4_takeEdge 59 = .ok (.iload 4, 2) := by decide +kernel
theorem dX4_takeEdge_61 : decode cX4_takeEdge 61 = .ok (.iaload, 1) := by decide +kernel
theorem dX4_takeEdge_62 : decode cX4_takeEdge 62 = .ok (.if_icmp .ne 15, 3) := by decide +kernel
theorem dX4_takeEdge_65 : decode cX4_takeEdge 65 = .ok (.aload_n 0, 1) := by decide +kernel
theorem dX4_takeEdge_66 : decode cX4_takeEdge 66 = .ok (.dup, 1) := by decide +kernel
theorem dX4_takeEdge_67 : decode cX4_takeEdge 67 = .ok (.getfield 22, 3) := by decide +kernel
theorem dX4_takeEdge_70 : decode cX4_takeEdge 70 = .ok (.iconst 1, 1) := by decide +kernel
theorem dX4_takeEdge_71 : decode cX4_takeEdge 71 = .ok (.isub, 1) := by decide +kernel
theorem dX4_takeEdge_72 : decode cX4_takeEdge 72 = .ok (.putfield 22, 3) := by decide +kernel
theorem dX4_takeEdge_75 : decode cX4_takeEdge 75 = .ok (.iconst 0, 1) := by decide +kernel
theorem dX4_takeEdge_76 : decode cX4_takeEdge 76 = .ok (.ireturn, 1) := by decide +kernel
theorem dX4_takeEdge_77 : decode cX4_takeEdge 77 = .ok (.aload_n 0, 1) := by decide +kernel
theorem dX4_takeEdge_78 : decode cX4_takeEdge 78 = .ok (.iconst 1, 1) := by decide +kernel
theorem dX4_takeEdge_79 : decode cX4_takeEdge 79 = .ok (.bipush 99, 2) := by decide +kernel
theorem dX4_takeEdge_81 : decode cX4_takeEdge 81 = .ok (.invokevirtual 29, 3) := by decide +kernel
theorem dX4_takeEdge_84 : decode cX4_takeEdge 84 = .ok (.istore 5, 2) := by decide +kernel
theorem dX4_takeEdge_86 : decode cX4_takeEdge 86 = .ok (.iload 5, 2) := by decide +kernel
theorem dX4_takeEdge_88 : decode cX4_takeEdge 88 = .ok (.iconst (-1), 1) := by decide +kernel
theorem dX4_takeEdge_89 : decode cX4_takeEdge 89 = .ok (.if_icmp .ne 5, 3) := by decide +kernel
theorem dX4_takeEdge_92 : decode cX4_takeEdge 92 = .ok (.iconst 0, 1) := by decide +kernel
theorem dX4_takeEdge_93 : decode cX4_takeEdge 93 = .ok (.ireturn, 1) := by decide +kernel
theorem dX4_takeEdge_94 : decode cX4_takeEdge 94 = .ok (.aload_n 1, 1) := by decide +kernel
theorem dX4_takeEdge_95 : decode cX4_takeEdge 95 = .ok (.iload_n 3, 1) := by decide +kernel
theorem dX4_takeEdge_96 : decode cX4_takeEdge 96 = .ok (.iload 4, 2) := by decide +kernel
theorem dX4_takeEdge_98 : decode cX4_takeEdge 98 = .ok (.iload 5, 2) := by decide +kernel
theorem dX4_takeEdge_100 : decode cX4_takeEdge 100 = .ok (.invokevirtual 56, 3) := by decide +kernel
theorem dX4_takeEdge_103 : decode cX4_takeEdge 103 = .ok (.aload_n 0, 1) := by decide +kernel
theorem dX4_takeEdge_104 : decode cX4_takeEdge 104 = .ok (.aload_n 0, 1) := by decide +kernel
theorem dX4_takeEdge_105 : decode cX4_takeEdge 105 = .ok (.getfield 15, 3) := by decide +kernel
theorem dX4_takeEdge_108 : decode cX4_takeEdge 108 = .ok (.iload_n 3, 1) := by decide +kernel
theorem dX4_takeEdge_109 : decode cX4_takeEdge 109 = .ok (.iaload, 1) := by decide +kernel
theorem dX4_takeEdge_110 : decode cX4_takeEdge 110 = .ok (.aload_n 0, 1) := by decide +kernel
theorem dX4_takeEdge_111 : decode cX4_takeEdge 111 = .ok (.getfield 15, 3) := by decide +kernel
theorem dX4_takeEdge_114 : decode cX4_takeEdge 114 = .ok (.iload 4, 2) := by decide +kernel
theorem dX4_takeEdge_116 : decode cX4_takeEdge 116 = .ok (.iaload, 1) := by decide +kernel
theorem dX4_takeEdge_117 : decode cX4_takeEdge 117 = .ok (.invokevirtual 60, 3) := by decide +kernel
theorem dX4_takeEdge_120 : decode cX4_takeEdge 120 = .ok (.iconst 1, 1) := by decide +kernel
theorem dX4_takeEdge_121 : decode cX4_takeEdge 121 = .ok (.ireturn, 1) := by decide +kernel
theorem dX4_joinTrees_0 : decode cX4_joinTrees 0 = .ok (.iconst 0, 1) := by decide +kernel
theorem dX4_joinTrees_1 : decode cX4_joinTrees 1 = .ok (.istore_n 3, 1) := by decide +kernel
theorem dX4_joinTrees_2 : decode cX4_joinTrees 2 = .ok (.iload_n 3, 1) := by decide +kernel
theorem dX4_joinTrees_3 : decode cX4_joinTrees 3 = .ok (.bipush 12, 2) := by decide +kernel
theorem dX4_joinTrees_5 : decode cX4_joinTrees 5 = .ok (.if_icmp .ge 26, 3) := by decide +kernel
theorem dX4_joinTrees_8 : decode cX4_joinTrees 8 = .ok (.aload_n 0, 1) := by decide +kernel
theorem dX4_joinTrees_9 : decode cX4_joinTrees 9 = .ok (.getfield 15, 3) := by decide +kernel
theorem dX4_joinTrees_12 : decode cX4_joinTrees 12 = .ok (.iload_n 3, 1) := by decide +kernel
theorem dX4_joinTrees_13 : decode cX4_joinTrees 13 = .ok (.iaload, 1) := by decide +kernel
theorem dX4_joinTrees_14 : decode cX4_joinTrees 14 = .ok (.iload_n 2, 1) := by decide +kernel
theorem dX4_joinTrees_15 : decode cX4_joinTrees 15 = .ok (.if_icmp .ne 10, 3) := by decide +kernel
theorem dX4_joinTrees_18 : decode cX4_joinTrees 18 = .ok (.aload_n 0, 1) := by decide +kernel
theorem dX4_joinTrees_19 : decode cX4_joinTrees 19 = .ok (.getfield 15, 3) := by decide +kernel
theorem dX4_joinTrees_22 : decode cX4_joinTrees 22 = .ok (.iload_n 3, 1) := by decide +kernel
theorem dX4_joinTrees_23 : decode cX4_joinTrees 23 = .ok (.iload_n 1, 1) := by decide +kernel
theorem dX4_joinTrees_24 : decode cX4_joinTrees 24 = .ok (.iastore, 1) := by decide +kernel
theorem dX4_joinTrees_25 : decode cX4_joinTrees 25 = .ok (.iinc 3 1, 3) := by decide +kernel
theorem dX4_joinTrees_28 : decode cX4_joinTrees 28 = .ok (.goto (-26), 3) := by decide +kernel
theorem dX4_joinTrees_31 : decode cX4_joinTrees 31 = .ok (.return_, 1) := by decide +kernel
theorem dX4_takeNumber_0 : decode cX4_takeNumber 0 = .ok (.aload_n 0, 1) := by decide +kernel
theorem dX4_takeNumber_1 : decode cX4_takeNumber 1 = .ok (.bipush 48, 2) := by decide +kernel
theorem dX4_takeNumber_3 : decode cX4_takeNumber 3 = .ok (.bipush 48, 2) := by decide +kernel
theorem dX4_takeNumber_5 : decode cX4_takeNumber 5 = .ok (.iload_n 2, 1) := by decide +kernel
theorem dX4_takeNumber_6 : decode cX4_takeNumber 6 = .ok (.bipush 10, 2) := by decide +kernel
theorem dX4_takeNumber_8 : decode cX4_takeNumber 8 = .ok (.idiv, 1) := by decide +kernel
theorem dX4_takeNumber_9 : decode cX4_takeNumber 9 = .ok (.iadd, 1) := by decide +kernel
theorem dX4_takeNumber_10 : decode cX4_takeNumber 10 = .ok (.invokevirtual 25, 3) := by decide +kernel
theorem dX4_takeNumber_13 : decode cX4_takeNumber 13 = .ok (.istore_n 3, 1) := by decide +kernel
theorem dX4_takeNumber_14 : decode cX4_takeNumber 14 = .ok (.iload_n 3, 1) := by decide +kernel
theorem dX4_takeNumber_15 : decode cX4_takeNumber 15 = .ok (.iconst (-1), 1) := by decide +kernel
theorem dX4_takeNumber_16 : decode cX4_takeNumber 16 = .ok (.if_icmp .ne 5, 3) := by decide +kernel
theorem dX4_takeNumber_19 : decode cX4_takeNumber 19 = .ok (.iconst (-1), 1) := by decide +kernel
theorem dX4_takeNumber_20 : decode cX4_takeNumber 20 = .ok (.ireturn, 1) := by decide +kernel
theorem dX4_takeNumber_21 : decode cX4_takeNumber 21 = .ok (.iload_n 3, 1) := by decide +kernel
theorem dX4_takeNumber_22 : decode cX4_takeNumber 22 = .ok (.ifCond .ne 7, 3) := by decide +kernel
theorem dX4_takeNumber_25 : decode cX4_takeNumber 25 = .ok (.iload_n 1, 1) := by decide +kernel
theorem dX4_takeNumber_26 : decode cX4_takeNumber 26 = .ok (.goto 4, 3) := by decide +kernel
theorem dX4_takeNumber_29 : decode cX4_takeNumber 29 = .ok (.iconst 0, 1) := by decide +kernel
theorem dX4_takeNumber_30 : decode cX4_takeNumber 30 = .ok (.istore 4, 2) := by decide +kernel
theorem dX4_takeNumber_32 : decode cX4_takeNumber 32 = .ok (.iload_n 3, 1) := by decide +kernel
theorem dX4_takeNumber_33 : decode cX4_takeNumber 33 = .ok (.iload_n 2, 1) := by decide +kernel
theorem dX4_takeNumber_34 : decode cX4_takeNumber 34 = .ok (.bipush 10, 2) := by decide +kernel
theorem dX4_takeNumber_36 : decode cX4_takeNumber 36 = .ok (.idiv, 1) := by decide +kernel
theorem dX4_takeNumber_37 : decode cX4_takeNumber 37 = .ok (.if_icmp .ne 10, 3) := by decide +kernel
theorem dX4_takeNumber_40 : decode cX4_takeNumber 40 = .ok (.iload_n 2, 1) := by decide +kernel
theorem dX4_takeNumber_41 : decode cX4_takeNumber 41 = .ok (.bipush 10, 2) := by decide +kernel
theorem dX4_takeNumber_43 : decode cX4_takeNumber 43 = .ok (.irem, 1) := by decide +kernel
theorem dX4_takeNumber_44 : decode cX4_takeNumber 44 = .ok (.goto 5, 3) := by decide +kernel
theorem dX4_takeNumber_47 : decode cX4_takeNumber 47 = .ok (.bipush 9, 2) := by decide +kernel
theorem dX4_takeNumber_49 : decode cX4_takeNumber 49 = .ok (.istore 5, 2) := by decide +kernel
theorem dX4_takeNumber_51 : decode cX4_takeNumber 51 = .ok (.aload_n 0, 1) := by decide +kernel
theorem dX4_takeNumber_52 : decode cX4_takeNumber 52 = .ok (.bipush 48, 2) := by decide +kernel
theorem dX4_takeNumber_54 : decode cX4_takeNumber 54 = .ok (.iload 4, 2) := by decide +kernel
theorem dX4_takeNumber_56 : decode cX4_takeNumber 56 = .ok (.iadd, 1) := by decide +kernel
theorem dX4_takeNumber_57 : decode cX4_takeNumber 57 = .ok (.bipush 48, 2) := by decide +kernel
theorem dX4_takeNumber_59 : decode cX4_takeNumber 59 = .ok (.iload 5, 2) := by decide +kernel
theorem dX4_takeNumber_61 : decode cX4_takeNumber 61 = .ok (.iadd, 1) := by decide +kernel
theorem dX4_takeNumber_62 : decode cX4_takeNumber 62 = .ok (.invokevirtual 25, 3) := by decide +kernel
theorem dX4_takeNumber_65 : decode cX4_takeNumber 65 = .ok (.istore 6, 2) := by decide +kernel
theorem dX4_takeNumber_67 : decode cX4_takeNumber 67 = .ok (.iload 6, 2) := by decide +kernel
theorem dX4_takeNumber_69 : decode cX4_takeNumber 69 = .ok (.iconst (-1), 1) := by decide +kernel
theorem dX4_takeNumber_70 : decode cX4_takeNumber 70 = .ok (.if_icmp .ne 7, 3) := by decide +kernel
theorem dX4_takeNumber_73 : decode cX4_takeNumber 73 = .ok (.iconst (-1), 1) := by decide +kernel
theorem dX4_takeNumber_74 : decode cX4_takeNumber 74 = .ok (.goto 13, 3) := by decide +kernel
theorem dX4_takeNumber_77 : decode cX4_takeNumber 77 = .ok (.bipush 10, 2) := by decide +kernel
theorem dX4_takeNumber_79 : decode cX4_takeNumber 79 = .ok (.iload_n 3, 1) := by decide +kernel
theorem dX4_takeNumber_80 : decode cX4_takeNumber 80 = .ok (.imul, 1) := by decide +kernel
theorem dX4_takeNumber_81 : decode cX4_takeNumber 81 = .ok (.iload 4, 2) := by decide +kernel
theorem dX4_takeNumber_83 : decode cX4_takeNumber 83 = .ok (.iadd, 1) := by decide +kernel
theorem dX4_takeNumber_84 : decode cX4_takeNumber 84 = .ok (.iload 6, 2) := by decide +kernel
theorem dX4_takeNumber_86 : decode cX4_takeNumber 86 = .ok (.iadd, 1) := by decide +kernel
theorem dX4_takeNumber_87 : decode cX4_takeNumber 87 = .ok (.ireturn, 1) := by decide +kernel
theorem dX4_take_0 : decode cX4_take 0 = .ok (.aload_n 0, 1) := by decide +kernel
theorem dX4_take_1 : decode cX4_take 1 = .ok (.getfield 22, 3) := by decide +kernel
theorem dX4_take_4 : decode cX4_take 4 = .ok (.aload_n 0, 1) := by decide +kernel
theorem dX4_take_5 : decode cX4_take 5 = .ok (.getfield 18, 3) := by decide +kernel
theorem dX4_take_8 : decode cX4_take 8 = .ok (.if_icmp .lt 5, 3) := by decide +kernel
theorem dX4_take_11 : decode cX4_take 11 = .ok (.iconst (-1), 1) := by decide +kernel
theorem dX4_take_12 : decode cX4_take 12 = .ok (.ireturn, 1) := by decide +kernel
theorem dX4_take_13 : decode cX4_take 13 = .ok (.aload_n 0, 1) := by decide +kernel
theorem dX4_take_14 : decode cX4_take 14 = .ok (.getfield 11, 3) := by decide +kernel
theorem dX4_take_17 : decode cX4_take 17 = .ok (.aload_n 0, 1) := by decide +kernel
theorem dX4_take_18 : decode cX4_take 18 = .ok (.getfield 22, 3) := by decide +kernel
theorem dX4_take_21 : decode cX4_take 21 = .ok (.iaload, 1) := by decide +kernel
theorem dX4_take_22 : decode cX4_take 22 = .ok (.istore_n 3, 1) := by decide +kernel
theorem dX4_take_23 : decode cX4_take 23 = .ok (.iload_n 3, 1) := by decide +kernel
theorem dX4_take_24 : decode cX4_take 24 = .ok (.iload_n 1, 1) := by decide +kernel
theorem dX4_take_25 : decode cX4_take 25 = .ok (.if_icmp .lt 8, 3) := by decide +kernel
theorem dX4_take_28 : decode cX4_take 28 = .ok (.iload_n 3, 1) := by decide +kernel
theorem dX4_take_29 : decode cX4_take 29 = .ok (.iload_n 2, 1) := by decide +kernel
theorem dX4_take_30 : decode cX4_take 30 = .ok (.if_icmp .le 5, 3) := by decide +kernel
theorem dX4_take_33 : decode cX4_take 33 = .ok (.iconst (-1), 1) := by decide +kernel
theorem dX4_take_34 : decode cX4_take 34 = .ok (.ireturn, 1) := by decide +kernel
theorem dX4_take_35 : decode cX4_take 35 = .ok (.aload_n 0, 1) := by decide +kernel
theorem dX4_take_36 : decode cX4_take 36 = .ok (.dup, 1) := by decide +kernel
theorem dX4_take_37 : decode cX4_take 37 = .ok (.getfield 22, 3) := by decide +kernel
theorem dX4_take_40 : decode cX4_take 40 = .ok (.iconst 1, 1) := by decide +kernel
theorem dX4_take_41 : decode cX4_take 41 = .ok (.iadd, 1) := by decide +kernel
theorem dX4_take_42 : decode cX4_take 42 = .ok (.putfield 22, 3) := by decide +kernel
theorem dX4_take_45 : decode cX4_take 45 = .ok (.iload_n 3, 1) := by decide +kernel
theorem dX4_take_46 : decode cX4_take 46 = .ok (.iload_n 1, 1) := by decide +kernel
theorem dX4_take_47 : decode cX4_take 47 = .ok (.isub, 1) := by decide +kernel
theorem dX4_take_48 : decode cX4_take 48 = .ok (.ireturn, 1) := by decide +kernel
theorem dJ7_fill_53178_0 : decode cJ7_fill_53178 0 = .ok (.iconst 0, 1) := by decide +kernel
theorem dJ7_fill_53178_1 : decode cJ7_fill_53178 1 = .ok (.istore_n 2, 1) := by decide +kernel
theorem dJ7_fill_53178_2 : decode cJ7_fill_53178 2 = .ok (.aload_n 0, 1) := by decide +kernel
theorem dJ7_fill_53178_3 : decode cJ7_fill_53178 3 = .ok (.arraylength, 1) := by decide +kernel
theorem dJ7_fill_53178_4 : decode cJ7_fill_53178 4 = .ok (.istore_n 3, 1) := by decide +kernel
theorem dJ7_fill_53178_5 : decode cJ7_fill_53178 5 = .ok (.iload_n 2, 1) := by decide +kernel
theorem dJ7_fill_53178_6 : decode cJ7_fill_53178 6 = .ok (.iload_n 3, 1) := by decide +kernel
theorem dJ7_fill_53178_7 : decode cJ7_fill_53178 7 = .ok (.if_icmp .ge 13, 3) := by decide +kernel
theorem dJ7_fill_53178_10 : decode cJ7_fill_53178 10 = .ok (.aload_n 0, 1) := by decide +kernel
theorem dJ7_fill_53178_11 : decode cJ7_fill_53178 11 = .ok (.iload_n 2, 1) := by decide +kernel
theorem dJ7_fill_53178_12 : decode cJ7_fill_53178 12 = .ok (.iload_n 1, 1) := by decide +kernel
theorem dJ7_fill_53178_13 : decode cJ7_fill_53178 13 = .ok (.iastore, 1) := by decide +kernel
theorem dJ7_fill_53178_14 : decode cJ7_fill_53178 14 = .ok (.iinc 2 1, 3) := by decide +kernel
theorem dJ7_fill_53178_17 : decode cJ7_fill_53178 17 = .ok (.goto (-12), 3) := by decide +kernel
theorem dJ7_fill_53178_20 : decode cJ7_fill_53178 20 = .ok (.return_, 1) := by decide +kernel
